import java.math.BigInteger;
import java.util.ArrayList;
import java.util.List;

/** The edges of promises 31 to 36: part, image, from, status, count, digest. */
public final class EdgesOfTheRestTest {

    public static void main(String[] args) throws Exception {
        Edges.run(EdgesOfTheRestTest.class, 31, 36);
    }

    // ---- promise 31

    @Says("THE FRACTION: above (0), below (1). BAD.")
    static void promise31_aboveAndBelow(Check check) {
        // 9 by 1 .. 4 on 12: 10 11 12 9: 42 by 4
        Edges.bounds(check, Edges::lively, "part(#)", 0, 1, (x, what) -> x.part(what), what -> what == 0 ? 21 : 2);
        Edges.bounds(check, SnakeLadders::new, "part(#)", 0, 1, (x, what) -> x.part(what), what -> what);
        Edges.asked(check, Edges::lively, "part(0)", x -> x.part(0), 21);
        Edges.asked(check, Edges::lively, "part(1)", x -> x.part(1), 2);
    }

    @Says("Refused, changing nothing but STATUS")
    static void promise31_staysWhatItWasBehindRefusedQuestions(Check check) {
        SnakeLadders x = Edges.lively();
        x.home(0, 6);
        x.home(3, 1);
        x.mean(0, -1);
        x.mean(-1, 1);
        x.ahead(0, 0, 1);
        x.ahead(0, 1, 3);
        check.due("part(0)", x.part(0), 21);
        check.due("part(1)", x.part(1), 2);
        check.due("status(0)", x.status(0), 6);
    }

    @Says("These are THE FRACTION.")
    static void promise31_othersLeaveIt(Check check) {
        SnakeLadders x = Edges.lively();
        x.goes(0, 1);
        x.few(0, -1);
        x.rather(0, 2, 1);
        x.without(0, 2, 1);
        x.span(0, 2, 0);
        x.choice(0, 1, -1);
        x.evenings(7, 60);
        x.is(0);
        x.look(0);
        x.kinds(0);
        x.ask(0);
        check.due("part(0)", x.part(0), 21);
        check.due("part(1)", x.part(1), 2);
        x.home(1, 3);
        check.due("home(1, 3): above", x.part(0), 1);
        check.due("home(1, 3): below", x.part(1), 1);
    }

    @Says("lowest terms, below above 0")
    static void promise31_noneIsNoughtByOne(Check check) {
        SnakeLadders x = Edges.on(40, 6, 0, 0);
        x.mean(0, 1);
        x.home(0, 5);
        check.due("no chance: above", x.part(0), 0);
        check.due("no chance: below", x.part(1), 1);
        x.mean(0, 1);
        x.ahead(0, 1, 0);
        check.due("not ahead: above", x.part(0), 0);
        check.due("not ahead: below", x.part(1), 1);
    }

    // ---- promises 32 and 33

    @Says({"An IMAGE is kept: 1. BAD.", "IMAGES 0, 1 keep all but them"})
    static void promise32_imagesNoughtAndOne(Check check) {
        Edges.bounds(check, Edges::lively, "image(#)", 0, 1, (x, i) -> x.image(i), i -> 1);
        Edges.bounds(check, Edges::crowded, "image(#)", 0, 1, (x, i) -> x.image(i), i -> 1);
    }

    @Says("An IMAGE is kept: 1.")
    static void promise32_keptAnewInThePlaceOfTheOldOne(Check check) {
        SnakeLadders x = Edges.crowded();
        x.board(10, 2);
        long state = x.digest();
        x.image(0);
        x.board(11, 3);
        x.image(1);
        x.from(0);
        check.due("image 0", x.digest(), state);
        check.due("image 0: L", x.count(0), 10);
        x.from(1);
        check.due("image 1: L", x.count(0), 11);
    }

    @Says("An IMAGE is kept")
    static void promise32_whatComesBehindDoesNotReachIt(Check check) {
        SnakeLadders x = Edges.lively();
        long state = x.digest();
        x.image(1);
        check.due("all goes on as it was", x.digest(), state);
        x.rolls(0, 1);
        x.undo();
        x.undo();
        x.link(0, 1, 2);
        x.player(2);
        x.die(2);
        x.note(0, 0, 1, 1);
        x.mark(0, 0, 1, 1);
        x.from(1);
        check.due("from(1)", x.digest(), state);
        SnakeLadders twin = Edges.lively();
        for (int n = 0; n < 4; n++) {
            check.due("undo()", x.undo(), twin.undo());
            check.due("undone", x.digest(), twin.digest());
        }
    }

    @Says("what may be undone they keep")
    static void promise32_otherMovesNotesAndMarksDoNotReachIt(Check check) {
        SnakeLadders x = Edges.on(20, 6, 0, 0, 0);
        x.link(0, 3, 9);
        x.link(0, 5, 11);
        x.rolls(1, 5);
        x.rolls(1, 1);
        x.rolls(2, 3);
        x.note(1, 2, 3, 4);
        x.mark(2, 4, 6, 8);
        long state = x.digest();
        x.image(0);
        for (int n = 0; n < 3; n++) {
            x.undo();
        }
        x.forget(0);
        x.forget(1);
        // as many others, in the places of those that were kept
        x.rolls(0, 3);
        x.rolls(0, 2);
        x.rolls(0, 1);
        x.note(0, 9, 6, 40);
        x.mark(0, 40, 5, 39);
        x.from(0);
        check.due("from(0)", x.digest(), state);
        int[][] due = {{12, 0, 2, 0, 1}, {11, 0, 1, 0, 1}, {0, 0, 0, 0, 0}};
        for (int[] one : due) {
            x.undo();
            check.due("of(1, 1)", x.of(1, 1), one[0]);
            check.due("of(2, 1)", x.of(2, 1), one[1]);
            check.due("of(1, 2)", x.of(1, 2), one[2]);
            check.due("about(0, 3)", x.about(0, 3), one[3]);
            check.due("about(1, 3)", x.about(1, 3), one[4]);
            check.due("of(0, 1)", x.of(0, 1), 0);
            check.due("of(2, 2)", x.of(2, 2), 0);
        }
    }

    @Says("USED as ahead of the last THROW")
    static void promise32_usesThatMayBeUndoneAreKept(Check check) {
        SnakeLadders x = Edges.on(20, 6, 0);
        x.link(0, 3, 0);
        for (int n = 0; n < 5; n++) {
            x.rolls(0, 3);
        }
        x.image(1);
        x.board(20, 6);
        x.player(0);
        x.link(0, 3, 0);
        for (int n = 0; n < 5; n++) {
            x.rolls(0, 3);
            x.rolls(0, 3);
        }
        x.from(1);
        for (int left = 4; left >= 0; left--) {
            x.undo();
            check.due("used", x.about(0, 3), left);
            check.due("throws", x.of(0, 2), left);
        }
    }

    @Says("It goes on from an IMAGE: 1. BAD; NO: none was kept.")
    static void promise33_imagesNoughtAndOne(Check check) {
        Edges.bounds(check, Edges::crowded, "from(#)", 0, 1, (x, i) -> x.from(i), i -> 1);
    }

    @Says("NO: none was kept")
    static void promise33_noneWasKept(Check check) {
        Edges.no(check, SnakeLadders::new, "from(0)", x -> x.from(0));
        Edges.no(check, SnakeLadders::new, "from(1)", x -> x.from(1));
        Edges.no(check, Edges::lively, "from(1), only 0 was kept", x -> x.from(1));
        SnakeLadders x = new SnakeLadders();
        x.image(1);
        check.no("from(0), only 1 was kept", x, () -> x.from(0));
        Edges.bad(check, SnakeLadders::new, "from(2), none was kept", y -> y.from(2));
        Edges.bad(check, SnakeLadders::new, "from(-1), none was kept", y -> y.from(-1));
        check.due("from(1)", x.from(1), 1);
    }

    @Says("IMAGES 0, 1 keep all but them, THE TEXT, THE FRACTION and STATUS")
    static void promise33_textFractionAndStatusAreNotKept(Check check) {
        SnakeLadders x = Edges.lively();
        x.image(1);
        x.type(' ');
        x.home(0, 0);
        x.rolls(9, 1);
        x.from(1);
        check.due("bytes of the text", x.count(10), 31);
        check.due("above", x.part(0), 0);
        check.due("below", x.part(1), 1);
        check.due("status(0)", x.status(0), 1);
        x.clear();
        x.from(0);
        check.due("bytes of the text, cleared", x.count(10), 0);
        check.due("read()", x.read(), -10);
    }

    @Says("keep all but them")
    static void promise33_imagesAreNotKeptInImages(Check check) {
        SnakeLadders x = Edges.on(10, 2);
        x.image(0);
        x.board(11, 2);
        x.image(1);
        x.board(12, 2);
        x.image(0);
        x.from(1);
        check.due("image 1", x.count(0), 11);
        x.from(0);
        check.due("image 0 is the later one", x.count(0), 12);
    }

    @Says("what may be undone they keep; it goes on from one")
    static void promise33_whatMayBeUndoneIsKept(Check check) {
        SnakeLadders x = Edges.crowded();
        for (int round = 0; round < 2; round++) {
            SnakeLadders twin = Edges.crowded();
            x.board(20, 6);
            x.player(0);
            x.rolls(0, 1);
            check.due("from(0)", x.from(0), 1);
            check.due("to undo", x.count(9), 8);
            for (int n = 0; n < 8; n++) {
                check.due("undo()", x.undo(), twin.undo());
                check.due("of(0, 1)", x.of(0, 1), twin.of(0, 1));
                check.due("of(1, 1)", x.of(1, 1), twin.of(1, 1));
                check.due("of(2, 1)", x.of(2, 1), twin.of(2, 1));
                check.due("count(6)", x.count(6), twin.count(6));
            }
            check.no("no more", x, x::undo);
        }
        x.from(1);
        check.due("image 1: to undo", x.count(9), 1);
        x.undo();
        check.due("image 1: undone", x.of(0, 1), 0);
        check.due("image 1: used", x.count(6), 0);
    }

    @Says("It goes on from an IMAGE")
    static void promise33_allOfItIsThere(Check check) {
        SnakeLadders x = Edges.crowded();
        SnakeLadders twin = Edges.crowded();
        x.board(10, 2);
        x.from(0);
        check.due("digest()", x.digest(), twin.digest());
        check.full("link", x, () -> x.link(0, 11, 12));
        check.full("player", x, () -> x.player(0));
        check.full("note", x, () -> x.note(0, 0, 1, 1));
        check.full("mark", x, () -> x.mark(0, 0, 1, 1));
    }

    // ---- promise 34

    @Says("STATUS: BAD (0), NO (1), FULL (2). -1: another what (counts as BAD).")
    static void promise34_anotherWhatIsMinusOneAndBad(Check check) {
        for (int what : new int[] {-1, 3, Integer.MIN_VALUE, Integer.MAX_VALUE}) {
            Edges.refused(check, Edges::lively, "status(" + what + ")", x -> x.status(what), -1, 0);
            Edges.refused(check, SnakeLadders::new, "status(" + what + ")", x -> x.status(what), -1, 0);
        }
    }

    @Says("how many calls were refused as BAD, NO, FULL")
    static void promise34_eachByItsReason(Check check) {
        SnakeLadders x = Edges.crowded();
        for (int n = 1; n <= 20; n++) {
            x.die(7);
            check.due("BAD", x.status(0), n);
            check.due("NO", x.status(1), 2 * (n - 1));
            check.due("FULL", x.status(2), 3 * (n - 1));
            x.rolls(3, 1);
            x.sets(3, 40);
            x.player(0);
            x.note(0, 0, 1, 1);
            x.type(0);
            check.due("BAD then", x.status(0), n);
            check.due("NO then", x.status(1), 2 * n);
            check.due("FULL then", x.status(2), 3 * n);
        }
    }

    @Says("(each answer told so below is such a one)")
    static void promise34_otherAnswersAreNoRefusals(Check check) {
        SnakeLadders x = Edges.on(40, 6, 0, 0);
        x.without(0, 1, 0);
        x.few(0, 0);
        x.few(0, 9);
        x.sets(0, 39);
        x.few(0, 9);
        x.choice(0, 1, 99);
        x.read();
        x.mark(0, 0, 1, 0);
        x.ask(0);
        x.clear();
        x.status(0);
        x.status(2);
        for (int what = 0; what < 3; what++) {
            check.due("status(" + what + ")", x.status(what), 0);
        }
    }

    @Says("(where others are told they count as these)")
    static void promise34_badOfFewAndChoiceCountsAsBad(Check check) {
        SnakeLadders x = Edges.on(20, 6, 0);
        check.due("few(1, 0)", x.few(1, 0), -10);
        check.due("status(0)", x.status(0), 1);
        check.due("choice(0, 0, 0)", x.choice(0, 0, 0), -10);
        check.due("status(0) then", x.status(0), 2);
        check.due("status(3)", x.status(3), -1);
        check.due("status(0) at last", x.status(0), 3);
        check.due("status(1)", x.status(1), 0);
        check.due("status(2)", x.status(2), 0);
    }

    // ---- promise 35

    @Says("How many: 0 L, 1 D, 2 LINKS, 3 PLAYERS, 4 HOME, 5 THROWS of all together, 6 USED of all together, 7 NOTES, 8 MARKS, 9 that may be undone, 10 bytes of THE TEXT. BAD.")
    static void promise35_noughtToTen(Check check) {
        int[] crowded = {40, 6, 6, 4, 1, 7, 2, 6, 6, 8, 150};
        Edges.bounds(check, Edges::crowded, "count(#)", 0, 10, (x, what) -> x.count(what), what -> crowded[what]);
        int[] lively = {12, 4, 2, 3, 1, 2, 2, 1, 1, 4, 30};
        Edges.bounds(check, Edges::lively, "count(#)", 0, 10, (x, what) -> x.count(what), what -> lively[what]);
        for (int n = 0; n <= 10; n++) {
            int what = n;
            Edges.asked(check, Edges::crowded, "count(" + n + ")", x -> x.count(what), crowded[n]);
            Edges.asked(check, Edges::lively, "count(" + n + ")", x -> x.count(what), lively[n]);
        }
    }

    @Says("5 THROWS of all together, 6 USED of all together")
    static void promise35_ofAllTogether(Check check) {
        SnakeLadders x = Edges.on(20, 6, 0, 0, 0, 0);
        for (int k = 0; k < 6; k++) {
            x.link(0, k + 1, 15);
        }
        for (int i = 0; i < 4; i++) {
            x.rolls(i, 6 - i);
        }
        x.rolls(0, 1);
        check.due("throws", x.count(5), 5);
        check.due("used", x.count(6), 4);
        x.sets(0, 0);
        x.rolls(0, 1);
        x.sets(3, 20);
        x.sets(0, 20);
        check.due("throws then", x.count(5), 6);
        check.due("used then", x.count(6), 5);
        check.due("HOME", x.count(4), 2);
    }

    // ---- promise 36

    /** The digest from what the other calls tell, with numbers that have no bound, cut to 64 bits. */
    private static long told(SnakeLadders x, int[][] notes, int[][] marks) {
        List<Long> all = new ArrayList<>();
        for (int what = 0; what <= 10; what++) {
            all.add((long) x.count(what));
        }
        for (int k = 0; k < x.count(2); k++) {
            for (int what = 0; what <= 3; what++) {
                all.add((long) x.about(k, what));
            }
        }
        for (int i = 0; i < x.count(3); i++) {
            for (int what = 0; what <= 2; what++) {
                all.add((long) x.of(i, what));
            }
        }
        for (int[][] seen : new int[][][] {notes, marks}) {
            for (int[] one : seen) {
                for (int v : one) {
                    all.add((long) v);
                }
            }
        }
        all.add(x.part(0));
        all.add(x.part(1));
        BigInteger h = BigInteger.valueOf(1831);
        for (long v : all) {
            h = h.multiply(BigInteger.valueOf(31)).add(BigInteger.valueOf(v));
        }
        return h.longValue();
    }

    @Says("h = 1831; then h = 31 h + v for each v")
    static void promise36_ofANewOne(Check check) {
        SnakeLadders x = new SnakeLadders();
        check.due("digest()", x.digest(), told(x, new int[0][], new int[0][]));
        Edges.asked(check, SnakeLadders::new, "digest()", SnakeLadders::digest, new SnakeLadders().digest());
    }

    @Says("count(0) to count(10); of LINKS KIND, FROM, TO, USED; of PLAYERS KIND, SQUARE, THROWS; of NOTES k, u, r, x; of MARKS i, p, r, x; THE FRACTION.")
    static void promise36_ofAFullOneWithAllInItsOrder(Check check) {
        int[][] notes = new int[6][];
        int[][] marks = new int[6][];
        for (int k = 0; k < 6; k++) {
            notes[k] = new int[] {k, k, 6, 33};
            marks[k] = new int[] {k % 4, k, 6, k + 3};
        }
        SnakeLadders x = Edges.crowded();
        check.due("digest(), crowded", x.digest(), told(x, notes, marks));
        SnakeLadders y = Edges.lively();
        check.due("digest(), lively", y.digest(), told(y, new int[][] {{0, 0, 1, 8}}, new int[][] {{1, 2, 3, 5}}));
    }

    @Says("h = 31 h + v for each v")
    static void promise36_eachOfThemTells(Check check) {
        long state = Edges.lively().digest();
        for (int n = 0; n < 9; n++) {
            SnakeLadders x = Edges.lively();
            switch (n) {
                case 0: x.sets(0, 8); break;
                case 1: x.note(0, 0, 1, 1); break;
                case 2: x.mark(0, 0, 1, 1); break;
                case 3: x.type(0); break;
                case 4: x.home(0, 0); break;
                case 5: x.die(5); break;
                case 6: x.undo(); break;
                case 7: x.player(0); break;
                default: x.link(0, 1, 2); break;
            }
            check.holds("case " + n + " is told", x.digest() != state);
        }
    }

    @Says("h = 31 h + v for each v")
    static void promise36_statusImagesAndBytesAreNotInIt(Check check) {
        SnakeLadders x = Edges.lively();
        long state = x.digest();
        x.image(0);
        x.image(1);
        x.rolls(9, 9);
        x.status(9);
        check.due("images and status", x.digest(), state);
        Edges.typed(x, "z".repeat(30));
        check.due("as many bytes, others", x.digest(), state);
    }
}
