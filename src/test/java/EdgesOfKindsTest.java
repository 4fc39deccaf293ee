/** The edges of promises 22 to 30: note, mark, forget, is, look, kinds, ask, choice, evenings. */
public final class EdgesOfKindsTest {
    private static final int NONE = Edges.NONE;
    private static final int PLAIN = 0, BOUNCER = 1, LIMPER = 5, BROKEN = 3;
    private static final int ALL_KINDS = 63;

    public static void main(String[] args) throws Exception {
        Edges.run(EdgesOfKindsTest.class, 22, 30);
    }

    /** The least board and die, one player, a link from 5 to 2: notes and marks go beyond them. */
    private static SnakeLadders small() {
        SnakeLadders x = Edges.on(10, 2, PLAIN);
        x.link(PLAIN, 5, 2);
        return x;
    }

    // ---- promise 22

    @Says("a LINK, USED u (0 .. 9) times before")
    static void promise22_usedNoughtToNine(Check check) {
        Edges.bounds(check, EdgesOfKindsTest::small, "note(0, #, 1, 2)", 0, 9, (x, u) -> x.note(0, u, 1, 2), u -> 1);
    }

    @Says("led to SQUARE x (0 .. 40) by a throw r (1 .. 6)")
    static void promise22_toNoughtToFortyByOneToSixWhateverTheBoard(Check check) {
        Edges.bounds(check, EdgesOfKindsTest::small, "note(0, 0, #, 2)", 1, 6, (x, r) -> x.note(0, 0, r, 2), r -> 1);
        Edges.bounds(check, EdgesOfKindsTest::small, "note(0, 0, 1, #)", 0, 40, (x, p) -> x.note(0, 0, 1, p), p -> 1);
    }

    @Says("NOTES 0 .. 5, as they come: a LINK")
    static void promise22_linksThatAreThere(Check check) {
        Edges.bounds(check, EdgesOfKindsTest::small, "note(#, 0, 1, 2)", 0, 0, (x, k) -> x.note(k, 0, 1, 2), k -> 1);
        Edges.bounds(check, Edges::lively, "note(#, 0, 1, 2)", 0, 1, (x, k) -> x.note(k, 0, 1, 2), k -> 2);
    }

    @Says("A NOTE: how many there are. BAD; FULL: 6.")
    static void promise22_theSixthIsTakenTheSeventhIsFull(Check check) {
        SnakeLadders x = small();
        for (int n = 1; n <= 6; n++) {
            check.due("note, number " + n, x.note(0, 0, 1, 2), n);
            check.due("count(7)", x.count(7), n);
        }
        check.full("a 7th", x, () -> x.note(0, 0, 1, 2));
        Edges.full(check, Edges::crowded, "a 7th", y -> y.note(5, 9, 6, 40));
    }

    @Says("the first of: BAD -2 a number is not as told; NO -3 as told; FULL -4")
    static void promise22_badThenFull(Check check) {
        Edges.bad(check, Edges::crowded, "a 7th of no link", x -> x.note(6, 0, 1, 2));
        Edges.bad(check, Edges::crowded, "a 7th, used 10", x -> x.note(0, 10, 1, 2));
        Edges.bad(check, Edges::crowded, "a 7th, by 7", x -> x.note(0, 0, 7, 2));
        Edges.bad(check, Edges::crowded, "a 7th, to 41", x -> x.note(0, 0, 1, 41));
    }

    @Says("A NOTE: how many there are.")
    static void promise22_nothingElseIsChanged(Check check) {
        SnakeLadders x = Edges.lively();
        SnakeLadders twin = Edges.lively();
        x.note(0, 9, 6, 40);
        Edges.countsStay(check, x, twin, 7);
        check.due("about(0, 3)", x.about(0, 3), twin.about(0, 3));
    }

    // ---- promise 23

    @Says("a PLAYER went from SQUARE p (0 .. 40) to x (0 .. 40) by a throw r (1 .. 6)")
    static void promise23_fromAndToNoughtToFortyByOneToSixWhateverTheBoard(Check check) {
        Edges.bounds(check, EdgesOfKindsTest::small, "mark(0, #, 1, 2)", 0, 40, (x, p) -> x.mark(0, p, 1, 2), p -> 1);
        Edges.bounds(check, EdgesOfKindsTest::small, "mark(0, 0, #, 2)", 1, 6, (x, r) -> x.mark(0, 0, r, 2), r -> 1);
        Edges.bounds(check, EdgesOfKindsTest::small, "mark(0, 0, 1, #)", 0, 40, (x, to) -> x.mark(0, 0, 1, to), to -> 1);
    }

    @Says("MARKS 0 .. 5, as they come: a PLAYER")
    static void promise23_playersThatAreThere(Check check) {
        Edges.bounds(check, EdgesOfKindsTest::small, "mark(#, 0, 1, 2)", 0, 0, (x, i) -> x.mark(i, 0, 1, 2), i -> 1);
        Edges.bounds(check, Edges::lively, "mark(#, 0, 1, 2)", 0, 2, (x, i) -> x.mark(i, 0, 1, 2), i -> 2);
        Edges.bounds(check, () -> Edges.on(20, 6, 0, 0, 0, 0), "mark(#, 0, 1, 2)", 0, 3, (x, i) -> x.mark(i, 0, 1, 2), i -> 1);
    }

    @Says("A MARK: how many there are. BAD; FULL: 6.")
    static void promise23_theSixthIsTakenTheSeventhIsFull(Check check) {
        SnakeLadders x = small();
        for (int n = 1; n <= 6; n++) {
            check.due("mark, number " + n, x.mark(0, 0, 1, 2), n);
            check.due("count(8)", x.count(8), n);
        }
        check.full("a 7th", x, () -> x.mark(0, 0, 1, 2));
        Edges.full(check, Edges::crowded, "a 7th", y -> y.mark(3, 40, 6, 40));
    }

    @Says("the first of: BAD -2 a number is not as told; NO -3 as told; FULL -4")
    static void promise23_badThenFull(Check check) {
        Edges.bad(check, Edges::crowded, "a 7th of nobody", x -> x.mark(4, 0, 1, 2));
        Edges.bad(check, Edges::crowded, "a 7th from 41", x -> x.mark(0, 41, 1, 2));
        Edges.bad(check, Edges::crowded, "a 7th by 7", x -> x.mark(0, 0, 7, 2));
        Edges.bad(check, Edges::crowded, "a 7th to 41", x -> x.mark(0, 0, 1, 41));
    }

    @Says("A MARK: how many there are.")
    static void promise23_nothingElseIsChanged(Check check) {
        SnakeLadders x = Edges.lively();
        SnakeLadders twin = Edges.lively();
        x.mark(0, 40, 6, 40);
        Edges.countsStay(check, x, twin, 8);
        check.due("of(0, 1)", x.of(0, 1), twin.of(0, 1));
    }

    // ---- promise 24

    @Says("No NOTES (0), MARKS (1): how many there were. BAD.")
    static void promise24_notesOrMarks(Check check) {
        Edges.bounds(check, Edges::lively, "forget(#)", 0, 1, (x, what) -> x.forget(what), what -> 1);
        Edges.bounds(check, Edges::crowded, "forget(#)", 0, 1, (x, what) -> x.forget(what), what -> 6);
    }

    @Says("how many there were")
    static void promise24_noneToSix(Check check) {
        SnakeLadders x = small();
        for (int many = 0; many <= 6; many++) {
            for (int n = 0; n < many; n++) {
                x.note(0, 0, 1, 2);
                x.mark(0, 0, 1, 1);
            }
            check.due("forget(0) of " + many, x.forget(0), many);
            check.due("marks stay", x.count(8), many);
            check.due("forget(1) of " + many, x.forget(1), many);
            check.due("notes", x.count(7), 0);
            check.due("marks", x.count(8), 0);
        }
        check.due("status(0)", x.status(0), 0);
    }

    @Says("NOTES 0 .. 5, as they come")
    static void promise24_theyBeginAgain(Check check) {
        SnakeLadders x = Edges.crowded();
        x.forget(0);
        check.due("is(0)", x.is(0), ALL_KINDS);
        check.due("note", x.note(0, 0, 1, 40), 1);
        check.full("marks are full still", x, () -> x.mark(0, 0, 1, 1));
        x.forget(1);
        check.due("kinds(0)", x.kinds(0), ALL_KINDS);
        check.due("mark", x.mark(0, 0, 1, 1), 1);
        check.due("to undo", x.count(9), 8);
    }

    // ---- promise 25

    @Says("IS, as bits. BAD.")
    static void promise25_linksThatAreThere(Check check) {
        Edges.bounds(check, EdgesOfKindsTest::sixLinks, "is(#)", 0, 5, (x, k) -> x.is(k), k -> ALL_KINDS);
        Edges.bounds(check, EdgesOfKindsTest::small, "is(#)", 0, 0, (x, k) -> x.is(k), k -> ALL_KINDS);
        Edges.bad(check, SnakeLadders::new, "is(0)", x -> x.is(0));
    }

    private static SnakeLadders sixLinks() {
        SnakeLadders x = Edges.on(20, 6);
        for (int k = 0; k < 6; k++) {
            x.link(k, k + 4, k + 11);
        }
        return x;
    }

    private static void is(Check check, int a, int b, int u, int r, int x, int due) {
        SnakeLadders game = Edges.on(20, 6);
        game.link(PLAIN, a, b);
        game.note(0, u, r, x);
        check.asked("from " + a + " to " + b + ", used " + u + ", by " + r + " to " + x, game, () -> game.is(0), due);
    }

    @Says("IS: KINDS (bits) by which, its FROM and TO, L as they are, all NOTES of one are so.")
    static void promise25_eachKindAtItsEdges(Check check) {
        // nobody is below 0: greased and oiled lead to 0 from 0 and 1
        is(check, 5, 0, 0, 6, 0, 0b101111);
        is(check, 5, 1, 0, 6, 0, 0b100100);
        is(check, 5, 2, 0, 2, 1, 0b100100);
        is(check, 5, 2, 0, 3, 0, 0b100000);
        is(check, 5, 4, 0, 6, 1, 0b100000);
        // nobody is beyond L: generous leads to 20 from 14 and above by 6
        is(check, 5, 14, 0, 6, 20, 0b010000);
        is(check, 5, 15, 0, 6, 20, 0b010000);
        is(check, 5, 13, 0, 6, 20, 0);
        is(check, 5, 20, 0, 1, 20, 0b011011);
        // used odd, used once or more
        is(check, 5, 9, 0, 1, 5, 0);
        is(check, 5, 9, 1, 1, 5, 0b001010);
        is(check, 5, 9, 2, 1, 5, 0b001000);
        is(check, 5, 9, 8, 1, 9, 0b000011);
        is(check, 5, 9, 9, 1, 9, 0b000001);
        is(check, 5, 9, 9, 1, 5, 0b001010);
        is(check, 5, 9, 0, 1, 40, 0);
    }

    @Says("all NOTES of one are so")
    static void promise25_allNotesOfThatLinkAndOfNoOther(Check check) {
        SnakeLadders x = sixLinks();
        x.note(0, 0, 1, 11);
        x.note(5, 0, 1, 40);
        check.due("is(0)", x.is(0), 0b001011);
        check.due("is(1)", x.is(1), ALL_KINDS);
        check.due("is(5)", x.is(5), 0);
        x.note(0, 1, 1, 4);
        check.due("is(0), two notes", x.is(0), 0b001010);
        for (int n = 0; n < 2; n++) {
            x.note(1, 0, 1, 12);
        }
        check.due("is(0), full", x.is(0), 0b001010);
        x.note(0, 2, 1, 11);
        check.due("is(0), the last note counts", x.is(0), 0b000010);
    }

    // ---- promise 26

    @Says("LOOK. NONE. BAD.")
    static void promise26_linksThatAreThere(Check check) {
        Edges.bounds(check, EdgesOfKindsTest::sixLinks, "look(#)", 0, 5, (x, k) -> x.look(k), k -> 11);
        Edges.bounds(check, EdgesOfKindsTest::small, "look(#)", 0, 0, (x, k) -> x.look(k), k -> 11);
        Edges.bad(check, SnakeLadders::new, "look(0)", x -> x.look(0));
    }

    @Says("none: no KIND")
    static void promise26_noneIfNoKindIsLeft(Check check) {
        SnakeLadders x = sixLinks();
        x.note(2, 0, 1, 40);
        check.asked("look(2)", x, () -> x.look(2), NONE);
        check.asked("look(1)", x, () -> x.look(1), 11);
        x.note(1, 1, 1, 12);
        check.due("one kind", x.is(1), 0b000001);
        check.asked("look(1), one kind: the least of all", x, () -> x.look(1), 1);
    }

    @Says("LOOK: 10 u and r (u 0 .. 3, r 1 .. 6) by which the most of these KINDS that lead alike are fewest")
    static void promise26_whereTheMostAreFewest(Check check) {
        SnakeLadders x = Edges.on(12, 6);
        x.link(PLAIN, 4, 5);
        // used 0: 5 5 4 5 .. (three); used 1: 5 4 4 4 (three); used 2, by 1, 2: 5 5 4 4 . 4; by 3: 5 5 4 4 8 3
        check.asked("used 2, by 3", x, () -> x.look(0), 23);
        SnakeLadders y = Edges.on(11, 6);
        y.link(PLAIN, 8, 7);
        // used 1, by 1: 7 8 6 8 8 6 (three); by 2: 7 8 6 8 9 6 (two)
        check.asked("used 1, by 2", y, () -> y.look(0), 12);
        SnakeLadders z = Edges.on(10, 6);
        z.link(PLAIN, 1, 0);
        z.note(0, 1, 1, 1);
        check.due("sleepy, broken or generous", z.is(0), 0b011010);
        // used 2, by 1: 0 1 1; by 2: 0 1 2
        check.asked("used 2, by 2", z, () -> z.look(0), 22);
        SnakeLadders w = Edges.on(10, 6);
        w.link(PLAIN, 9, 10);
        // used 0: 10 10 9 10 10 . (four); used 1, by 1, 2: 10 9 9 9 10 9 (four); by 3: 10 9 9 9 10 8 (three)
        check.asked("used 1, by 3", w, () -> w.look(0), 13);
    }

    @Says("of like ones the least")
    static void promise26_ofLikeOnesTheLeast(Check check) {
        SnakeLadders x = Edges.on(20, 2);
        x.link(PLAIN, 10, 8);
        x.note(0, 0, 1, 7);
        check.due("greased or oiled", x.is(0), 0b100100);
        check.asked("by 3, beyond the die", x, () -> x.look(0), 3);
        SnakeLadders y = Edges.on(20, 6);
        y.link(PLAIN, 10, 1);
        y.note(0, 0, 1, 0);
        check.due("greased or oiled, both at 0", y.is(0), 0b100100);
        check.asked("alike by all: the least of all", y, () -> y.look(0), 1);
        SnakeLadders z = Edges.on(20, 6);
        z.link(PLAIN, 10, 8);
        z.note(0, 1, 1, 10);
        check.due("sleepy or broken", z.is(0), 0b001010);
        check.asked("unlike behind two uses", z, () -> z.look(0), 21);
    }

    // ---- promise 27

    @Says("WHAT, as bits. BAD.")
    static void promise27_playersThatAreThere(Check check) {
        Edges.bounds(check, () -> Edges.on(20, 6, 0, 0, 0, 0), "kinds(#)", 0, 3, (x, i) -> x.kinds(i), i -> ALL_KINDS);
        Edges.bounds(check, EdgesOfKindsTest::small, "kinds(#)", 0, 0, (x, i) -> x.kinds(i), i -> ALL_KINDS);
        Edges.bad(check, SnakeLadders::new, "kinds(0)", x -> x.kinds(0));
    }

    private static void kinds(Check check, int p, int r, int x, int due) {
        SnakeLadders game = Edges.on(20, 6, PLAIN);
        game.link(PLAIN, 3, 12);
        game.mark(0, p, r, x);
        check.asked("from " + p + " by " + r + " to " + x, game, () -> game.kinds(0), due);
    }

    @Says("WHAT: KINDS (bits) of PLAYERS by which, L as it is, all MARKS of one are so.")
    static void promise27_eachKindAtItsEdges(Check check) {
        kinds(check, 14, 6, 20, 0b011011);
        kinds(check, 15, 6, 20, 0b010000);
        kinds(check, 15, 6, 19, 0b000010);
        kinds(check, 15, 6, 15, 0b001001);
        kinds(check, 15, 6, 18, 0b100100);
        kinds(check, 19, 1, 20, 0b110111);
        kinds(check, 19, 1, 19, 0b001000);
        kinds(check, 18, 1, 20, 0b011000);
        kinds(check, 0, 6, 3, 0b100100);
        kinds(check, 0, 5, 5, 0b011111);
        kinds(check, 0, 5, 3, 0b100000);
        kinds(check, 0, 3, 3, 0b011111);
        kinds(check, 0, 3, 12, 0);
        kinds(check, 0, 1, 0, 0);
    }

    @Says("a PLAYER went from SQUARE p (0 .. 40)")
    static void promise27_marksFromTheLastSquareAndBeyond(Check check) {
        kinds(check, 20, 1, 20, 0b111101);
        kinds(check, 20, 1, 19, 0b000010);
        kinds(check, 21, 1, 21, 0b101101);
        kinds(check, 21, 1, 20, 0b010000);
        kinds(check, 40, 6, 40, 0b101101);
        kinds(check, 34, 6, 0, 0b000010);
        kinds(check, 35, 6, 0, 0);
    }

    @Says("all MARKS of one are so")
    static void promise27_allMarksOfThatOneAndOfNoOther(Check check) {
        SnakeLadders x = Edges.on(20, 6, 0, 0, 0, 0);
        x.mark(0, 0, 1, 1);
        x.mark(3, 0, 1, 9);
        check.due("kinds(0)", x.kinds(0), 0b100111);
        check.due("kinds(1)", x.kinds(1), ALL_KINDS);
        check.due("kinds(3)", x.kinds(3), 0);
        x.mark(0, 0, 6, 6);
        check.due("kinds(0), two marks", x.kinds(0), 0b000011);
        x.mark(1, 0, 1, 1);
        x.mark(1, 0, 1, 1);
        x.mark(0, 19, 2, 19);
        check.due("kinds(0), the last mark counts", x.kinds(0), 0b000011);
        x.forget(1);
        x.mark(0, 19, 3, 18);
        check.due("kinds(0), a bouncer", x.kinds(0), 0b000010);
    }

    // ---- promise 28

    @Says("ASK. NONE. BAD.")
    static void promise28_playersThatAreThere(Check check) {
        Edges.bounds(check, () -> Edges.on(20, 6, 0, 0, 0, 0), "ask(#)", 0, 3, (x, i) -> x.ask(i), i -> 1506);
        Edges.bounds(check, EdgesOfKindsTest::small, "ask(#)", 0, 0, (x, i) -> x.ask(i), i -> 506);
        Edges.bad(check, SnakeLadders::new, "ask(0)", x -> x.ask(0));
    }

    @Says("ASK: 100 p and r (p 0 .. L less 1, r 1 .. 6) by which the most of these KINDS that go alike are fewest")
    static void promise28_whereTheMostAreFewest(Check check) {
        for (int l = 10; l <= 40; l += 10) {
            SnakeLadders x = Edges.on(l, 2, PLAIN);
            // from L less 5 by 6: plain and cheat stay, bouncer L less 1, timid and limper L less 2, lucky L
            check.asked("L is " + l, x, () -> x.ask(0), 100 * (x.count(0) - 5) + 6);
        }
        SnakeLadders y = Edges.on(13, 6, PLAIN);
        y.mark(0, 10, 6, 13);
        check.due("timid, lucky or limper", y.kinds(0), 0b110100);
        // from 9 by 5: 9, 13, 12; from squares ahead of it two are alike by any throw
        check.asked("from 9 by 5", y, () -> y.ask(0), 905);
    }

    @Says("of like ones the least")
    static void promise28_ofLikeOnesTheLeast(Check check) {
        SnakeLadders x = Edges.on(20, 2, PLAIN);
        x.mark(0, 0, 6, 3);
        check.due("timid or limper", x.kinds(0), 0b100100);
        check.asked("from 0 by 2", x, () -> x.ask(0), 2);
        x.mark(0, 0, 2, 1);
        check.due("limper", x.kinds(0), 0b100000);
        check.asked("one kind: the least of all", x, () -> x.ask(0), 1);
        SnakeLadders y = Edges.on(20, 2, PLAIN);
        y.mark(0, 0, 1, 1);
        y.mark(0, 0, 6, 6);
        check.due("plain or bouncer", y.kinds(0), 0b000011);
        check.asked("from 15 by 6", y, () -> y.ask(0), 1506);
    }

    @Says("none: no KIND")
    static void promise28_noneIfNoKindIsLeft(Check check) {
        SnakeLadders x = Edges.on(20, 2, PLAIN, PLAIN);
        x.mark(0, 0, 1, 0);
        check.asked("ask(0)", x, () -> x.ask(0), NONE);
        check.asked("ask(1)", x, () -> x.ask(1), 1506);
    }

    // ---- promise 29

    @Says({"CHOICE: how many (k = NONE), the k-th.", "how many; the k-th (rising)."})
    static void promise29_theFirstAndTheLastPair(Check check) {
        int[] pairs = {16, 26, 36, 46, 56, 61, 62, 63, 64, 65};
        SnakeLadders x = Edges.on(40, 6, PLAIN, PLAIN);
        check.asked("how many", x, () -> x.choice(0, 1, NONE), 10);
        for (int k = 0; k < 10; k++) {
            int place = k;
            check.asked("pair " + k, x, () -> x.choice(0, 1, place), pairs[k]);
        }
    }

    @Says("-5: not so many.")
    static void promise29_notSoMany(Check check) {
        SnakeLadders x = Edges.on(40, 6, PLAIN, PLAIN);
        check.asked("choice(0, 1, 10)", x, () -> x.choice(0, 1, 10), -5);
        check.asked("choice(0, 1, 36)", x, () -> x.choice(0, 1, 36), -5);
        check.asked("choice(0, 1, MAX)", x, () -> x.choice(0, 1, Integer.MAX_VALUE), -5);
    }

    @Says("pairs 10 i and j that rest (neither would get more by another throw)")
    static void promise29_noPairMayRest(Check check) {
        SnakeLadders x = Edges.on(10, 3, LIMPER, BOUNCER);
        x.link(BROKEN, 4, 10);
        x.link(BROKEN, 3, 10);
        x.sets(0, 2);
        x.sets(1, 2);
        // a is HOME by any, and breaks 3, 3, 4; b by 1, 2, 3 comes to 3, 4, 5:
        // 11: 8 -3, 12: 10 10, 13: 11 0; 21: 11 0, 22: 7 7, 23: 11 0; 31: 10 10, 32: 11 0, 33: 8 -3
        check.asked("how many", x, () -> x.choice(0, 1, NONE), 0);
        check.asked("the first", x, () -> x.choice(0, 1, 0), -5);
    }

    @Says("CHOICE: two unlike PLAYERS a, b name throws i, j (1 .. D)")
    static void promise29_asManyPairsAsTheDieHasSides(Check check) {
        SnakeLadders x = Edges.on(20, 2, PLAIN, PLAIN);
        check.asked("of 2 sides: how many", x, () -> x.choice(0, 1, NONE), 2);
        check.asked("of 2 sides: the first", x, () -> x.choice(0, 1, 0), 12);
        check.asked("of 2 sides: the last", x, () -> x.choice(0, 1, 1), 21);
        x.sets(0, 20);
        x.sets(1, 20);
        // both HOME: 10 each, 3 less if they name the same
        check.asked("both HOME: how many", x, () -> x.choice(0, 1, NONE), 2);
        x.die(6);
        check.asked("both HOME, of 6 sides: how many", x, () -> x.choice(0, 1, NONE), 30);
        check.asked("both HOME, of 6 sides: the first", x, () -> x.choice(0, 1, 0), 12);
        check.asked("both HOME, of 6 sides: the last", x, () -> x.choice(0, 1, 29), 65);
        check.asked("both HOME, of 6 sides: no more", x, () -> x.choice(0, 1, 30), -5);
    }

    @Says("a goes by it first, then b: to each 10 for being HOME then, 1 for being on the higher SQUARE (alike: none), 3 less, if both name the same")
    static void promise29_whatEachGets(Check check) {
        SnakeLadders x = Edges.on(20, 2, PLAIN, PLAIN);
        x.sets(0, 19);
        x.sets(1, 19);
        // 11: 7 7, 12: 11 0, 21: 0 11, 22: -3 -3
        check.asked("both by 1: how many", x, () -> x.choice(0, 1, NONE), 1);
        check.asked("both by 1", x, () -> x.choice(0, 1, 0), 11);
        SnakeLadders y = Edges.on(20, 2, PLAIN, PLAIN);
        y.sets(0, 19);
        y.sets(1, 17);
        // 11: 8 -3, 12: 11 0, 21: 1 0, 22: -2 -3
        check.asked("one by 1: how many", y, () -> y.choice(0, 1, NONE), 1);
        check.asked("one by 1", y, () -> y.choice(0, 1, 0), 12);
        check.asked("the other way", y, () -> y.choice(1, 0, 0), 21);
        SnakeLadders z = Edges.on(10, 2, PLAIN, PLAIN);
        z.link(BROKEN, 1, 10);
        // a first, who breaks it: 11: 8 -3, 12: 11 0, 21: 0 11, 22: -3 -3
        check.asked("broken under a: how many", z, () -> z.choice(0, 1, NONE), 1);
        check.asked("broken under a", z, () -> z.choice(0, 1, 0), 12);
        SnakeLadders w = Edges.on(10, 2, PLAIN, PLAIN);
        w.link(BROKEN, 5, 10);
        w.sets(0, 3);
        w.sets(1, 4);
        // a by 2 and b by 1 come to it: 11: -3 8, 12: 0 1, 21: 11 0, 22: 8 -3
        check.asked("broken ahead of b: how many", w, () -> w.choice(0, 1, NONE), 1);
        check.asked("broken ahead of b", w, () -> w.choice(0, 1, 0), 21);
        check.due("used", w.about(0, 3), 0);
    }

    @Says("BAD: -10: alike a, b, too.")
    static void promise29_badIsTen(Check check) {
        for (int k : new int[] {-2, -5, -10, Integer.MIN_VALUE}) {
            Edges.badByTen(check, Edges::lively, "choice(0, 1, " + k + ")", x -> x.choice(0, 1, k));
        }
        for (int i : new int[] {-1, 3, Integer.MIN_VALUE, Integer.MAX_VALUE}) {
            Edges.badByTen(check, Edges::lively, "choice(" + i + ", 1, NONE)", x -> x.choice(i, 1, NONE));
            Edges.badByTen(check, Edges::lively, "choice(1, " + i + ", NONE)", x -> x.choice(1, i, NONE));
            Edges.badByTen(check, Edges::lively, "choice(" + i + ", " + i + ", 0)", x -> x.choice(i, i, 0));
        }
        for (int i = 0; i < 3; i++) {
            int one = i;
            Edges.badByTen(check, Edges::lively, "choice(" + i + ", " + i + ", NONE)", x -> x.choice(one, one, NONE));
        }
        check.due("the last and the first", Edges.crowded().choice(3, 0, NONE), 30);
        Edges.badByTen(check, Edges::crowded, "choice(4, 0, NONE)", x -> x.choice(4, 0, NONE));
    }

    // ---- promise 30

    @Says({"EVENINGS by a SEED (0 .. 999999), n (0 .. 60)", "how many are HOME behind them", "EVENINGS. BAD."})
    static void promise30_seedsAndHowMany(Check check) {
        Edges.bounds(check, () -> Edges.on(40, 6, 0, 0, 0, 0), "evenings(#, 60)", 0, 999999, (x, s) -> x.evenings(s, 60), s -> 2);
        Edges.bounds(check, () -> Edges.on(40, 6, 0, 0, 0, 0), "evenings(5, #)", 0, 60, (x, n) -> x.evenings(5, n), n -> n / 30);
        Edges.asked(check, () -> Edges.on(40, 6, 0, 0, 0, 0), "evenings(5, 59)", x -> x.evenings(5, 59), 1);
    }

    @Says({"X is SEED at first; n times X becomes X times 1103515245 and 12345, by 2147483648 what is left over",
        "PLAYER X by 65536 (cut), by 4 left over"})
    static void promise30_theFirstThrowOfASeed(Check check) {
        // who and by what, worked out by hand: 0: 0 by 1; 1: 2 by 3; 999999: 0 by 3
        int[][] due = {{0, 0, 1}, {1, 2, 3}, {999999, 0, 3}};
        for (int[] one : due) {
            for (int r = 1; r <= 6; r++) {
                SnakeLadders x = Edges.on(10, 6, 0, 0, 0, 0);
                x.sets(one[1], 10 - r);
                check.asked("seed " + one[0] + ", by " + r, x, () -> x.evenings(one[0], 1), r == one[2] ? 1 : 0);
            }
            SnakeLadders x = Edges.on(10, 6, 0, 0, 0, 0);
            x.sets(one[1], 10 - one[2]);
            check.asked("seed " + one[0] + ", none", x, () -> x.evenings(one[0], 0), 0);
        }
    }

    @Says("if there and not HOME")
    static void promise30_oneWhoIsNotThereOrIsHomeDoesNotThrow(Check check) {
        SnakeLadders x = Edges.on(10, 6, 0, 0);
        x.sets(0, 7);
        x.sets(1, 7);
        check.asked("player 2 is not there", x, () -> x.evenings(1, 1), 0);
        x.sets(0, 10);
        check.asked("player 0 is HOME", x, () -> x.evenings(0, 1), 1);
        SnakeLadders y = new SnakeLadders();
        check.asked("nobody", y, () -> y.evenings(999999, 60), 0);
        SnakeLadders z = Edges.on(10, 6, 4, 4, 4, 4);
        for (int i = 0; i < 4; i++) {
            z.sets(i, 10);
        }
        check.asked("all are HOME", z, () -> z.evenings(7, 60), 4);
        check.asked("all are HOME, none", z, () -> z.evenings(7, 0), 4);
    }

    @Says("if there and not HOME")
    static void promise30_oneWhoIsNotThereUsesNoLink(Check check) {
        // seed 63: 1 by 3, then 0 by 3; seed 43: 3 by 5, then 0 by 5
        int[][] due = {{63, 3, 1}, {43, 5, 3}};
        for (int[] one : due) {
            SnakeLadders x = Edges.on(20, 6, PLAIN);
            x.link(BROKEN, one[1], 20);
            check.asked("seed " + one[0] + ", one player", x, () -> x.evenings(one[0], 2), 1);
            check.asked("seed " + one[0] + ", the first throw alone", x, () -> x.evenings(one[0], 1), 0);
            for (int i = 1; i < one[2]; i++) {
                x.player(PLAIN);
            }
            check.asked("seed " + one[0] + ", not he", x, () -> x.evenings(one[0], 2), 1);
            x.player(PLAIN);
            check.asked("seed " + one[0] + ", he breaks it, HOME himself", x, () -> x.evenings(one[0], 2), 1);
            x.sets(one[2], 1);
            check.asked("seed " + one[0] + ", he is elsewhere", x, () -> x.evenings(one[0], 2), 1);
            x.sets(one[2], 20);
            check.asked("seed " + one[0] + ", he is HOME already", x, () -> x.evenings(one[0], 2), 2);
        }
    }

    @Says("throws X by 1048576 (cut), by D left over, and 1")
    static void promise30_cutAtItsEdges(Check check) {
        // X is 1723 times 1048576 and 1238, 812 times and 567 (a divisor of one more would give one less);
        // 1629 times and 1047180, 1948 times and 1048472 (a divisor of one less would give one more)
        int[][] due = {{241, 0, 2}, {822, 0, 3}, {959, 3, 4}, {1403, 3, 5}};
        for (int[] one : due) {
            for (int r = 1; r <= 6; r++) {
                SnakeLadders x = Edges.on(10, 6, 0, 0, 0, 0);
                x.sets(one[1], 10 - r);
                check.asked("seed " + one[0] + ", by " + r, x, () -> x.evenings(one[0], 1), r == one[2] ? 1 : 0);
            }
        }
    }

    @Says("throws X by 1048576 (cut), by D left over, and 1")
    static void promise30_byTheSidesOfTheDie(Check check) {
        // seed 1: player 2; 1052 by 2, 3, 4, 5, 6 leaves 0, 2, 0, 2, 2
        int[] due = {0, 0, 1, 3, 1, 3, 3};
        for (int d = 2; d <= 6; d++) {
            SnakeLadders x = Edges.on(10, d, 0, 0, 0);
            x.sets(2, 10 - due[d]);
            check.asked("of " + d + " sides", x, () -> x.evenings(1, 1), 1);
        }
    }

    @Says("(Nothing is changed by these;")
    static void promise30_nothingIsChanged(Check check) {
        Edges.asked(check, Edges::lively, "evenings(7, 60)", x -> x.evenings(7, 60) < 1 ? 1 : 0, 0);
        Edges.asked(check, Edges::crowded, "evenings(7, 60)", x -> x.evenings(7, 60) < 1 ? 1 : 0, 0);
    }
}
