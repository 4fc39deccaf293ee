/** The edges of promises 1 to 5: a new object, board, die, link, player. */
public final class EdgesOfTheBoardTest {
    private static final int NONE = Edges.NONE;

    public static void main(String[] args) throws Exception {
        Edges.run(EdgesOfTheBoardTest.class, 1, 5);
    }

    // ---- promise 1

    @Says({"As told; nobody plays.", "20 at first", "6 at first"})
    static void promise01_twentySquaresSixSidesAndNothingElse(Check check) {
        SnakeLadders x = new SnakeLadders();
        Edges.counts(check, x, 20, 6, 0, 0, 0, 0, 0, 0, 0, 0, 0);
    }

    @Says("THE FRACTION is 0 by 1 at first")
    static void promise01_theFractionIsNoneByOne(Check check) {
        SnakeLadders x = new SnakeLadders();
        check.due("part(0)", x.part(0), 0);
        check.due("part(1)", x.part(1), 1);
    }

    @Says("STATUS: how many calls were refused as BAD, NO, FULL")
    static void promise01_nothingWasRefused(Check check) {
        SnakeLadders x = new SnakeLadders();
        for (int what = 0; what < 3; what++) {
            check.due("status(" + what + ")", x.status(what), 0);
        }
    }

    @Says("nobody plays")
    static void promise01_noPlayerMayBeNamed(Check check) {
        Edges.bad(check, SnakeLadders::new, "rolls(0, 1)", x -> x.rolls(0, 1));
        Edges.bad(check, SnakeLadders::new, "sets(0, 1)", x -> x.sets(0, 1));
        Edges.bad(check, SnakeLadders::new, "of(0, 0)", x -> x.of(0, 0));
        Edges.bad(check, SnakeLadders::new, "goes(0, 1)", x -> x.goes(0, 1));
        Edges.badByTen(check, SnakeLadders::new, "few(0, NONE)", x -> x.few(0, NONE));
        Edges.bad(check, SnakeLadders::new, "home(0, 0)", x -> x.home(0, 0));
        Edges.bad(check, SnakeLadders::new, "mean(0, 0)", x -> x.mean(0, 0));
        Edges.bad(check, SnakeLadders::new, "ahead(0, 1, 0)", x -> x.ahead(0, 1, 0));
        Edges.bad(check, SnakeLadders::new, "rather(0, 1, 0)", x -> x.rather(0, 1, 0));
        Edges.bad(check, SnakeLadders::new, "without(0, 1, 0)", x -> x.without(0, 1, 0));
        Edges.bad(check, SnakeLadders::new, "span(0, 0, 0)", x -> x.span(0, 0, 0));
        Edges.bad(check, SnakeLadders::new, "mark(0, 0, 1, 0)", x -> x.mark(0, 0, 1, 0));
        Edges.bad(check, SnakeLadders::new, "kinds(0)", x -> x.kinds(0));
        Edges.bad(check, SnakeLadders::new, "ask(0)", x -> x.ask(0));
        Edges.badByTen(check, SnakeLadders::new, "choice(0, 1, NONE)", x -> x.choice(0, 1, NONE));
    }

    @Says("LINKS 0 .. 5, as they come")
    static void promise01_noLinkMayBeNamed(Check check) {
        Edges.bad(check, SnakeLadders::new, "about(0, 0)", x -> x.about(0, 0));
        Edges.bad(check, SnakeLadders::new, "note(0, 0, 1, 0)", x -> x.note(0, 0, 1, 0));
        Edges.bad(check, SnakeLadders::new, "is(0)", x -> x.is(0));
        Edges.bad(check, SnakeLadders::new, "look(0)", x -> x.look(0));
    }

    @Says({"NO: none may be.", "NO: none was kept."})
    static void promise01_nothingMayBeUndoneAndNoImageIsKept(Check check) {
        Edges.no(check, SnakeLadders::new, "undo()", SnakeLadders::undo);
        Edges.no(check, SnakeLadders::new, "from(0)", x -> x.from(0));
        Edges.no(check, SnakeLadders::new, "from(1)", x -> x.from(1));
    }

    @Says({"(an empty one, too)", "THE TEXT is empty: how many it had."})
    static void promise01_theTextIsEmpty(Check check) {
        Edges.asked(check, SnakeLadders::new, "clear()", SnakeLadders::clear, 0);
        Edges.asked(check, SnakeLadders::new, "read()", SnakeLadders::read, -10);
    }

    @Says("An object is used for at most 512 calls after it has been made")
    static void promise01_objectsDoNotKnowOfOneAnother(Check check) {
        SnakeLadders one = Edges.crowded();
        long state = one.digest();
        SnakeLadders other = Edges.lively();
        other.board(10, 2);
        other.player(5);
        other.clear();
        check.due("digest() of another one", one.digest(), state);
    }

    // ---- promise 2

    @Says({"L (L 10 .. 40; 20 at first)", "int board(int l, int d): L, D;"})
    static void promise02_lengthTenToForty(Check check) {
        Edges.bounds(check, Edges::lively, "board(#, 6)", 10, 40, (x, l) -> x.board(l, 6), l -> 3);
        for (int l = 10; l <= 40; l++) {
            SnakeLadders x = Edges.lively();
            x.board(l, 6);
            check.due("board(" + l + ", 6), then count(0)", x.count(0), l);
        }
    }

    @Says("a DIE of D sides (2 .. 6; 6 at first; all alike)")
    static void promise02_sidesTwoToSix(Check check) {
        Edges.bounds(check, Edges::lively, "board(20, #)", 2, 6, (x, d) -> x.board(20, d), d -> 3);
        for (int d = 2; d <= 6; d++) {
            SnakeLadders x = Edges.lively();
            x.board(20, d);
            check.due("board(20, " + d + "), then count(1)", x.count(1), d);
        }
    }

    @Says("Refused, changing nothing but STATUS")
    static void promise02_refusedOnceThoughBothNumbersAreBad(Check check) {
        Edges.bad(check, Edges::lively, "board(9, 7)", x -> x.board(9, 7));
        Edges.bad(check, Edges::crowded, "board(41, 1)", x -> x.board(41, 1));
        // numbers that would do if they were told the other way round
        Edges.bad(check, Edges::crowded, "board(6, 20)", x -> x.board(6, 20));
    }

    @Says("how many PLAYERS there were. BAD.")
    static void promise02_tellsHowManyPlayersThereWere(Check check) {
        SnakeLadders x = new SnakeLadders();
        for (int many = 0; many <= 4; many++) {
            for (int i = 0; i < many; i++) {
                x.player(i);
            }
            check.due("board(20, 6) with " + many, x.board(20, 6), many);
        }
        check.due("board(20, 6) with none again", x.board(20, 6), 0);
    }

    @Says("all else as at first")
    static void promise02_allElseIsAsAtFirst(Check check) {
        SnakeLadders x = Edges.crowded();
        x.board(40, 6);
        Edges.counts(check, x, 40, 6, 0, 0, 0, 0, 0, 0, 0, 0, 150);
        check.no("undo()", x, x::undo);
        check.due("player(4)", x.player(4), 0);
        check.due("his square", x.of(0, 1), 0);
        check.due("his throws", x.of(0, 2), 0);
        check.due("link(0, 1, 2), where one was", x.link(0, 1, 2), 0);
        check.due("its uses", x.about(0, 3), 0);
        check.due("is(0)", x.is(0), 63);
        check.due("kinds(0)", x.kinds(0), 63);
    }

    @Says("(but for IMAGES, THE TEXT, THE FRACTION, STATUS)")
    static void promise02_imagesTextFractionAndStatusStay(Check check) {
        SnakeLadders x = Edges.lively();
        SnakeLadders twin = Edges.lively();
        x.rolls(9, 9);
        twin.rolls(9, 9);
        x.board(12, 4);
        check.due("part(0)", x.part(0), twin.part(0));
        check.due("part(1)", x.part(1), twin.part(1));
        check.due("status(0)", x.status(0), 1);
        check.due("from(0)", x.from(0), 1);
        twin.from(0);
        check.due("from(0), then digest()", x.digest(), twin.digest());
        check.no("from(1)", x, () -> x.from(1));
        check.due("read()", x.read(), twin.read());
        check.due("read(), then digest()", x.digest(), twin.digest());
    }

    // ---- promise 3

    @Says({"The DIE has D sides: how many it had. BAD.", "a DIE of D sides (2 .. 6"})
    static void promise03_sidesTwoToSix(Check check) {
        Edges.bounds(check, Edges::lively, "die(#)", 2, 6, (x, d) -> x.die(d), d -> 4);
        Edges.bounds(check, Edges::crowded, "die(#)", 2, 6, (x, d) -> x.die(d), d -> 6);
    }

    @Says("how many it had")
    static void promise03_tellsHowManyItHad(Check check) {
        SnakeLadders x = new SnakeLadders();
        int had = 6;
        for (int d = 2; d <= 6; d++) {
            check.due("die(" + d + ")", x.die(d), had);
            check.due("die(" + d + "), then count(1)", x.count(1), d);
            had = d;
        }
        check.due("die(6) again", x.die(6), 6);
    }

    @Says("A THROW r (1 .. D)")
    static void promise03_throwsAreOfTheNewSides(Check check) {
        SnakeLadders x = Edges.on(20, 2, 0);
        check.bad("rolls(0, 3)", x, () -> x.rolls(0, 3));
        x.die(3);
        check.due("rolls(0, 3)", x.rolls(0, 3), 3);
        x.die(2);
        check.bad("rolls(0, 3) again", x, () -> x.rolls(0, 3));
    }

    @Says("a DIE told none may be")
    static void promise03_nothingMayBeUndoneBehindIt(Check check) {
        SnakeLadders x = Edges.crowded();
        check.due("to undo", x.count(9), 8);
        x.die(5);
        check.due("to undo then", x.count(9), 0);
        check.no("undo()", x, x::undo);
        x.rolls(0, 1);
        check.due("to undo behind a throw", x.count(9), 1);
        x.die(5);
        check.due("to undo, the same die told", x.count(9), 0);
    }

    @Says("The DIE has D sides")
    static void promise03_allElseStays(Check check) {
        SnakeLadders x = Edges.crowded();
        SnakeLadders twin = Edges.crowded();
        x.die(2);
        for (int what : new int[] {0, 2, 3, 4, 5, 6, 7, 8, 10}) {
            check.due("count(" + what + ")", x.count(what), twin.count(what));
        }
        x.from(1);
        twin.from(1);
        check.due("an image keeps its die", x.digest(), twin.digest());
    }

    // ---- promise 4

    @Says("LINKS 0 .. 5, as they come: a KIND")
    static void promise04_kindsNoughtToFive(Check check) {
        Edges.bounds(check, Edges::lively, "link(#, 7, 1)", 0, 5, (x, kind) -> x.link(kind, 7, 1), kind -> 2);
    }

    @Says("FROM a SQUARE (1 .. L less 1")
    static void promise04_fromOneToTheLastButOne(Check check) {
        Edges.bounds(check, Edges::lively, "link(0, #, 6)", 1, 11, (x, a) -> x.link(0, a, 6), a -> 2);
        Edges.bounds(check, () -> Edges.on(10, 6), "link(0, #, 5)", 1, 9, (x, a) -> x.link(0, a, 5), a -> 0);
        Edges.bounds(check, () -> Edges.on(40, 6), "link(0, #, 5)", 1, 39, (x, a) -> x.link(0, a, 5), a -> 0);
    }

    @Says("TO another one (0 .. L)")
    static void promise04_toNoughtToTheLast(Check check) {
        Edges.bounds(check, Edges::lively, "link(0, 6, #)", 0, 12, (x, b) -> x.link(0, 6, b), b -> 2);
        Edges.bounds(check, () -> Edges.on(10, 6), "link(0, 6, #)", 0, 10, (x, b) -> x.link(0, 6, b), b -> 0);
        Edges.bounds(check, () -> Edges.on(40, 6), "link(0, 6, #)", 0, 40, (x, b) -> x.link(0, 6, b), b -> 0);
    }

    @Says("BAD: alike a, b, too")
    static void promise04_fromASquareToItselfIsBad(Check check) {
        Edges.bad(check, Edges::lively, "link(0, 1, 1)", x -> x.link(0, 1, 1));
        Edges.bad(check, Edges::lively, "link(0, 11, 11)", x -> x.link(0, 11, 11));
        SnakeLadders x = Edges.lively();
        check.due("link(0, 6, 7)", x.link(0, 6, 7), 2);
        check.due("link(0, 7, 6)", x.link(0, 7, 6), 3);
    }

    @Says({"NO: one is FROM there", "one LINK from each at most"})
    static void promise04_aSecondFromTheSameSquareIsNo(Check check) {
        Edges.no(check, Edges::lively, "link(0, 3, 7)", x -> x.link(0, 3, 7));
        Edges.no(check, Edges::lively, "link(4, 5, 2)", x -> x.link(4, 5, 2));
        SnakeLadders x = Edges.lively();
        check.due("link to where one leads", x.link(0, 6, 8), 2);
        check.due("link from where one leads", x.link(0, 8, 3), 3);
    }

    @Says("FULL: 6.")
    static void promise04_theSixthIsTakenTheSeventhIsFull(Check check) {
        SnakeLadders x = Edges.on(20, 6);
        for (int k = 0; k < 6; k++) {
            check.due("count(2) ahead of it", x.count(2), k);
            check.due("link, number " + k, x.link(0, 10 - k, 15), k);
        }
        check.full("a 7th", x, () -> x.link(0, 11, 15));
        Edges.full(check, Edges::crowded, "a 7th", y -> y.link(0, 11, 15));
        x.board(20, 6);
        check.due("behind a board they begin again", x.link(0, 11, 15), 0);
    }

    @Says("the first of: BAD -2 a number is not as told; NO -3 as told; FULL -4")
    static void promise04_badThenNoThenFull(Check check) {
        Edges.no(check, Edges::crowded, "a 7th from where one is", x -> x.link(0, 6, 7));
        Edges.bad(check, Edges::crowded, "a 7th from where one is, to itself", x -> x.link(0, 6, 6));
        Edges.bad(check, Edges::crowded, "a 7th from where one is, no kind", x -> x.link(6, 6, 7));
        Edges.bad(check, Edges::crowded, "a 7th to nowhere", x -> x.link(0, 11, 41));
        Edges.bad(check, Edges::lively, "from where one is, to nowhere", x -> x.link(0, 3, 13));
    }

    @Says("behind a LINK, a PLAYER that comes")
    static void promise04_nothingMayBeUndoneBehindIt(Check check) {
        SnakeLadders x = Edges.lively();
        check.due("to undo", x.count(9), 4);
        x.link(0, 3, 4);
        check.due("to undo behind a refused one", x.count(9), 4);
        x.link(0, 4, 3);
        check.due("to undo then", x.count(9), 0);
        check.no("undo()", x, x::undo);
    }

    @Says({"USED (0 .. 99; 0 at first)", "A LINK: its number."})
    static void promise04_itIsAsTold(Check check) {
        SnakeLadders x = Edges.lively();
        x.sets(2, 10);
        int k = x.link(5, 10, 12);
        check.due("its number", k, 2);
        int[] due = {5, 10, 12, 0};
        for (int what = 0; what < 4; what++) {
            check.due("about(2, " + what + ")", x.about(k, what), due[what]);
        }
        check.due("who stands there is not led", x.of(2, 1), 10);
    }

    // ---- promise 5

    @Says("PLAYERS 0 .. 3, as they come: a KIND")
    static void promise05_kindsNoughtToFive(Check check) {
        Edges.bounds(check, Edges::lively, "player(#)", 0, 5, (x, kind) -> x.player(kind), kind -> 3);
    }

    @Says("A PLAYER: the number. BAD; FULL: 4.")
    static void promise05_theFourthIsTakenTheFifthIsFull(Check check) {
        SnakeLadders x = new SnakeLadders();
        for (int i = 0; i < 4; i++) {
            check.due("count(3) ahead of him", x.count(3), i);
            check.due("player, number " + i, x.player(5 - i), i);
        }
        check.full("a 5th", x, () -> x.player(0));
        Edges.full(check, Edges::crowded, "a 5th", y -> y.player(0));
        Edges.full(check, Edges::crowded, "a 5th, the last kind", y -> y.player(5));
        x.board(20, 6);
        check.due("behind a board they begin again", x.player(0), 0);
    }

    @Says("the first of: BAD -2 a number is not as told; NO -3 as told; FULL -4")
    static void promise05_badThenFull(Check check) {
        Edges.bad(check, Edges::crowded, "a 5th of no kind", x -> x.player(6));
        Edges.bad(check, Edges::crowded, "a 5th of no kind", x -> x.player(-1));
    }

    @Says("on a SQUARE (0 at first), THROWS (0 .. 9999; 0 at first)")
    static void promise05_onSquareNoughtWithoutThrows(Check check) {
        SnakeLadders x = Edges.lively();
        int i = x.player(3);
        int[] due = {3, 0, 0};
        for (int what = 0; what < 3; what++) {
            check.due("of(3, " + what + ")", x.of(i, what), due[what]);
        }
        check.due("HOME is still one", x.count(4), 1);
    }

    @Says("behind a LINK, a PLAYER that comes, a DIE told none may be")
    static void promise05_nothingMayBeUndoneBehindHim(Check check) {
        SnakeLadders x = Edges.lively();
        x.player(6);
        check.due("to undo behind a refused one", x.count(9), 4);
        x.player(0);
        check.due("to undo then", x.count(9), 0);
        check.no("undo()", x, x::undo);
        SnakeLadders y = Edges.crowded();
        y.player(0);
        check.due("to undo behind a 5th", y.count(9), 8);
    }
}
