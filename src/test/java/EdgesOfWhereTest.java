/** The edges of promises 14 to 21: goes, few, home, mean, ahead, rather, without, span. */
public final class EdgesOfWhereTest {
    private static final int NONE = Edges.NONE;
    private static final int PLAIN = 0, BOUNCER = 1, CHEAT = 3, LUCKY = 4, BROKEN = 3;

    public static void main(String[] args) throws Exception {
        Edges.run(EdgesOfWhereTest.class, 14, 21);
    }

    private static SnakeLadders at(int l, int d, int kind, int p) {
        SnakeLadders x = Edges.on(l, d, kind);
        if (p > 0) {
            x.sets(0, p);
        }
        return x;
    }

    // ---- promise 14

    @Says("GOES. BAD; NO: one is HOME.")
    static void promise14_throwsOneToTheSidesOfTheDie(Check check) {
        for (int d = 2; d <= 6; d++) {
            int sides = d;
            Edges.bounds(check, () -> Edges.on(20, sides, PLAIN), "of " + d + " sides: goes(0, #)", 1, d,
                (x, r) -> x.goes(0, r), r -> r);
        }
        Edges.bounds(check, () -> Edges.on(20, 6, 0, 0, 0, 0), "goes(#, 6)", 0, 3, (x, i) -> x.goes(i, 6), i -> 6);
    }

    @Says("NO: one is HOME")
    static void promise14_oneWhoIsHomeIsNo(Check check) {
        Edges.no(check, Edges::lively, "goes(1, 1)", x -> x.goes(1, 1));
        Edges.no(check, Edges::lively, "goes(1, 4)", x -> x.goes(1, 4));
        Edges.no(check, Edges::crowded, "goes(3, 6)", x -> x.goes(3, 6));
        Edges.bad(check, Edges::lively, "goes(1, 0)", x -> x.goes(1, 0));
        Edges.bad(check, Edges::lively, "goes(1, 5)", x -> x.goes(1, 5));
        Edges.bad(check, Edges::lively, "goes(3, 1)", x -> x.goes(3, 1));
    }

    @Says({"(Nothing is changed by these;", "GOES: on which SQUARE a PLAYER would be behind a throw r."})
    static void promise14_whereAThrowWouldLeadAndNothingIsChanged(Check check) {
        for (int r = 1; r <= 4; r++) {
            int by = r;
            for (int i : new int[] {0, 2}) {
                Edges.asked(check, Edges::lively, "goes(" + i + ", " + r + ")", x -> x.goes(i, by), Edges.lively().rolls(i, by));
            }
        }
    }

    // ---- promise 15

    @Says("FEW: how many (k = NONE), the k-th.")
    static void promise15_theFirstAndTheLastOfTheRow(Check check) {
        int[] row = {2, 6, 6, 6};
        Edges.asked(check, () -> at(20, 6, PLAIN, 0), "few(0, NONE)", x -> x.few(0, NONE), 4);
        for (int k = 0; k < 4; k++) {
            int place = k;
            Edges.asked(check, () -> at(20, 6, PLAIN, 0), "few(0, " + k + ")", x -> x.few(0, place), row[k]);
        }
    }

    @Says("-5: not so many.")
    static void promise15_notSoMany(Check check) {
        Edges.asked(check, () -> at(20, 6, PLAIN, 0), "few(0, 4)", x -> x.few(0, 4), -5);
        Edges.asked(check, () -> at(20, 6, PLAIN, 0), "few(0, MAX)", x -> x.few(0, Integer.MAX_VALUE), -5);
        Edges.asked(check, () -> at(20, 6, PLAIN, 14), "few(0, 0), one throw", x -> x.few(0, 0), 6);
        Edges.asked(check, () -> at(20, 6, PLAIN, 14), "few(0, 1), one throw", x -> x.few(0, 1), -5);
        Edges.asked(check, () -> at(30, 6, PLAIN, 0), "few(0, 5), five throws", x -> x.few(0, 5), -5);
    }

    @Says("FEW for a PLAYER: the fewest throws (0 .. 5; any sides told) by which one is HOME: how many")
    static void promise15_noughtToFiveThrows(Check check) {
        Edges.asked(check, () -> at(20, 6, PLAIN, 20), "HOME: few(0, NONE)", x -> x.few(0, NONE), 0);
        Edges.asked(check, () -> at(20, 6, PLAIN, 20), "HOME: few(0, 0)", x -> x.few(0, 0), -5);
        for (int n = 1; n <= 5; n++) {
            int squares = 6 * n;
            int last = n - 1;
            Edges.asked(check, () -> at(30, 6, PLAIN, 30 - squares), "few(0, NONE)", x -> x.few(0, NONE), n);
            Edges.asked(check, () -> at(30, 6, PLAIN, 30 - squares), "few(0, last)", x -> x.few(0, last), 6);
        }
        Edges.asked(check, () -> at(10, 2, PLAIN, 0), "of 2 sides: few(0, NONE)", x -> x.few(0, NONE), 5);
        Edges.asked(check, () -> at(10, 2, PLAIN, 0), "of 2 sides: few(0, 4)", x -> x.few(0, 4), 2);
    }

    @Says("-6: none (whatever k is).")
    static void promise15_noneWhateverKIs(Check check) {
        for (int k : new int[] {NONE, 0, 4, 5, 6, Integer.MAX_VALUE}) {
            Edges.asked(check, () -> at(31, 6, PLAIN, 0), "six throws are too many: few(0, " + k + ")", x -> x.few(0, k), -6);
            Edges.asked(check, () -> at(11, 2, PLAIN, 0), "of 2 sides: few(0, " + k + ")", x -> x.few(0, k), -6);
            Edges.asked(check, () -> at(20, 6, CHEAT, 19), "a cheat ahead of it: few(0, " + k + ")", x -> x.few(0, k), -6);
        }
    }

    @Says("BAD: -10.")
    static void promise15_badIsTen(Check check) {
        for (int k : new int[] {-2, -5, -6, -10, Integer.MIN_VALUE}) {
            Edges.badByTen(check, Edges::lively, "few(0, " + k + ")", x -> x.few(0, k));
            Edges.badByTen(check, () -> at(20, 6, PLAIN, 20), "HOME: few(0, " + k + ")", x -> x.few(0, k));
            Edges.badByTen(check, () -> at(31, 6, PLAIN, 0), "none: few(0, " + k + ")", x -> x.few(0, k));
        }
        for (int i : new int[] {-1, 3, Integer.MIN_VALUE, Integer.MAX_VALUE}) {
            Edges.badByTen(check, Edges::lively, "few(" + i + ", NONE)", x -> x.few(i, NONE));
            Edges.badByTen(check, Edges::lively, "few(" + i + ", 0)", x -> x.few(i, 0));
        }
        Edges.asked(check, Edges::lively, "few(2, NONE)", x -> x.few(2, NONE), 3);
        Edges.badByTen(check, Edges::crowded, "few(4, NONE)", x -> x.few(4, NONE));
        Edges.asked(check, Edges::crowded, "few(3, NONE)", x -> x.few(3, NONE), 0);
    }

    @Says("the k-th of the first such row (rising); none.")
    static void promise15_theFirstOfLikeRows(Check check) {
        SnakeLadders x = at(20, 6, PLAIN, 10);
        check.due("from 10: how many", x.few(0, NONE), 2);
        check.due("from 10: 4, though 5 5 and 6 4 do, too", x.few(0, 0), 4);
        check.due("from 10: 6", x.few(0, 1), 6);
        SnakeLadders y = at(20, 6, LUCKY, 16);
        check.due("a lucky one from 16", y.few(0, 0), 4);
        SnakeLadders z = at(20, 6, BOUNCER, 19);
        check.due("a bouncer from 19", z.few(0, 0), 1);
    }

    @Says("USED once more")
    static void promise15_linksAreUsedOnTheWay(Check check) {
        SnakeLadders x = at(40, 2, PLAIN, 0);
        x.link(BROKEN, 1, 0);
        x.link(PLAIN, 3, 40);
        // by 1 to 1 and back to 0, where the first breaks; 1 then 2 would be 3; the first row that does is 2 1
        check.due("how many", x.few(0, NONE), 2);
        check.due("the first", x.few(0, 0), 2);
        check.due("the second", x.few(0, 1), 1);
        x.rolls(0, 1);
        check.due("broken now: how many", x.few(0, NONE), 2);
        check.due("broken now: the first", x.few(0, 0), 1);
        check.due("used as it was", x.about(0, 3), 1);
    }

    // ---- promise 16

    @Says("HOME for a PLAYER and n (0 .. 5)")
    static void promise16_noughtToFiveThrows(Check check) {
        Edges.bounds(check, Edges::lively, "home(0, #)", 0, 5, (x, n) -> x.home(0, n), n -> 1);
        Edges.bounds(check, Edges::crowded, "home(#, 1)", 0, 3, (x, i) -> x.home(i, 1), i -> 1);
    }

    @Says({"HOME is THE FRACTION: 1. BAD.", "the chance to be HOME behind n throws of the DIE"})
    static void promise16_fromNoneToAll(Check check) {
        SnakeLadders x = at(10, 2, PLAIN, 0);
        check.fraction("home(0, 0)", x, x.home(0, 0), 0, 1);
        check.fraction("home(0, 4)", x, x.home(0, 4), 0, 1);
        check.fraction("home(0, 5)", x, x.home(0, 5), 1, 32);
        SnakeLadders y = at(30, 6, PLAIN, 0);
        check.fraction("home(0, 5) by five sixes", y, y.home(0, 5), 1, 7776);
        SnakeLadders z = at(20, 6, LUCKY, 19);
        check.fraction("a lucky one: home(0, 0)", z, z.home(0, 0), 0, 1);
        check.fraction("a lucky one: home(0, 1)", z, z.home(0, 1), 1, 1);
        check.fraction("a lucky one: home(0, 5)", z, z.home(0, 5), 1, 1);
    }

    @Says("a PLAYER who is HOME stays there, throws no more.")
    static void promise16_oneWhoIsHomeStaysThere(Check check) {
        for (int kind = 0; kind < 6; kind++) {
            SnakeLadders x = at(20, 6, kind, 20);
            for (int n = 0; n <= 5; n++) {
                check.fraction("kind " + kind + ": home(0, " + n + ")", x, x.home(0, n), 1, 1);
            }
            check.due("throws", x.of(0, 2), 0);
        }
        SnakeLadders x = at(10, 2, BOUNCER, 9);
        // by 1 HOME, by 2 back to 9
        check.fraction("a bouncer: home(0, 2)", x, x.home(0, 2), 3, 4);
        check.fraction("a bouncer: home(0, 5)", x, x.home(0, 5), 31, 32);
    }

    @Says("lowest terms, below above 0")
    static void promise16_lowestTerms(Check check) {
        SnakeLadders x = at(20, 6, CHEAT, 18);
        check.fraction("2 of 6", x, x.home(0, 1), 1, 3);
        SnakeLadders y = at(20, 4, CHEAT, 18);
        check.fraction("2 of 4", y, y.home(0, 1), 1, 2);
        check.fraction("12 of 16", y, y.home(0, 2), 3, 4);
        SnakeLadders z = at(20, 6, PLAIN, 19);
        check.fraction("0 of 1", z, z.home(0, 0), 0, 1);
    }

    @Says("(Nothing is changed by these;")
    static void promise16_nothingButTheFractionIsChanged(Check check) {
        SnakeLadders x = Edges.crowded();
        SnakeLadders twin = Edges.crowded();
        x.home(0, 5);
        x.mean(1, 5);
        x.ahead(2, 1, 2);
        x.home(2, 2);
        check.holds("all is as it was", Edges.print(x).equals(Edges.print(twin)));
    }

    // ---- promise 17

    @Says("MEAN: the mean SQUARE behind n throws.")
    static void promise17_noughtToFiveThrows(Check check) {
        Edges.bounds(check, Edges::lively, "mean(0, #)", 0, 5, (x, n) -> x.mean(0, n), n -> 1);
        Edges.bounds(check, Edges::crowded, "mean(#, 1)", 0, 3, (x, i) -> x.mean(i, 1), i -> 1);
    }

    @Says("MEAN is THE FRACTION: 1. BAD.")
    static void promise17_fromNoughtToTheLast(Check check) {
        SnakeLadders x = at(40, 6, PLAIN, 0);
        check.fraction("mean(0, 0)", x, x.mean(0, 0), 0, 1);
        check.fraction("mean(0, 1)", x, x.mean(0, 1), 7, 2);
        check.fraction("mean(0, 5)", x, x.mean(0, 5), 35, 2);
        x.sets(0, 40);
        check.fraction("HOME: mean(0, 0)", x, x.mean(0, 0), 40, 1);
        check.fraction("HOME: mean(0, 5)", x, x.mean(0, 5), 40, 1);
        SnakeLadders y = at(10, 2, PLAIN, 9);
        // 10 10 10 9: 39 by 4
        check.fraction("mean(0, 2) from 9", y, y.mean(0, 2), 39, 4);
        SnakeLadders z = at(10, 2, PLAIN, 0);
        z.link(PLAIN, 1, 0);
        z.link(PLAIN, 2, 0);
        check.fraction("mean(0, 5), led back always", z, z.mean(0, 5), 0, 1);
    }

    // ---- promise 18

    @Says("AHEAD for two unlike ones a, b and n (0 .. 2)")
    static void promise18_noughtToTwoThrows(Check check) {
        Edges.bounds(check, Edges::lively, "ahead(0, 1, #)", 0, 2, (x, n) -> x.ahead(0, 1, n), n -> 1);
    }

    @Says("AHEAD is THE FRACTION: 1. BAD: alike a, b, too.")
    static void promise18_twoPlayersThatAreThere(Check check) {
        Edges.bounds(check, Edges::crowded, "ahead(#, 1, 1)", 0, 3, (x, a) -> x.ahead(a, 1, 1), a -> 1);
        Edges.bounds(check, Edges::crowded, "ahead(1, #, 1)", 0, 3, (x, b) -> x.ahead(1, b, 1), b -> 1);
        for (int i = 0; i < 4; i++) {
            int one = i;
            Edges.bad(check, Edges::crowded, "ahead(" + i + ", " + i + ", 0)", x -> x.ahead(one, one, 0));
        }
        Edges.bad(check, Edges::lively, "ahead(0, 3, 0)", x -> x.ahead(0, 3, 0));
        Edges.bad(check, Edges::lively, "ahead(3, 0, 0)", x -> x.ahead(3, 0, 0));
    }

    @Says("the chance that a is on a higher SQUARE than b")
    static void promise18_alikeIsNotAhead(Check check) {
        SnakeLadders x = Edges.on(20, 6, PLAIN, PLAIN);
        check.fraction("alike", x, x.ahead(0, 1, 0), 0, 1);
        x.sets(0, 1);
        check.fraction("one ahead", x, x.ahead(0, 1, 0), 1, 1);
        check.fraction("one behind", x, x.ahead(1, 0, 0), 0, 1);
        x.sets(0, 20);
        x.sets(1, 20);
        for (int n = 0; n <= 2; n++) {
            check.fraction("both HOME", x, x.ahead(0, 1, n), 0, 1);
        }
        x.sets(1, 19);
        check.fraction("one HOME, the other gets there by 1", x, x.ahead(0, 1, 1), 5, 6);
        check.fraction("one HOME: twice", x, x.ahead(0, 1, 2), 25, 36);
        check.fraction("of the other", x, x.ahead(1, 0, 2), 0, 1);
    }

    @Says("behind n throws of each, a's first one, then b's, and so on")
    static void promise18_inTurns(Check check) {
        SnakeLadders x = Edges.on(10, 2, PLAIN, PLAIN);
        x.link(BROKEN, 2, 10);
        // 2 ...: HOME, 8 rows. 1 2: b is HOME. 1 1 1 .: HOME, 2 rows. 1 1 2 1: b is HOME. 1 1 2 2: alike
        check.fraction("ahead(0, 1, 2)", x, x.ahead(0, 1, 2), 5, 8);
        check.fraction("ahead(1, 0, 2)", x, x.ahead(1, 0, 2), 5, 8);
        // 1 1: alike. 1 2: b is HOME. 2 1, 2 2: a is HOME, b is not led any more
        check.fraction("ahead(0, 1, 1)", x, x.ahead(0, 1, 1), 1, 2);
        check.due("used", x.about(0, 3), 0);
    }

    // ---- promise 19

    @Says({"RATHER for a PLAYER and n (1 .. 4)", "RATHER: the SQUARE (0), how many rows (1). BAD."})
    static void promise19_oneToFourThrows(Check check) {
        int[] rows = {0, 1, 11, 91, 671};
        Edges.bounds(check, () -> at(20, 6, PLAIN, 3), "rather(0, #, 1)", 1, 4, (x, n) -> x.rather(0, n, 1), n -> rows[n]);
        Edges.bounds(check, () -> at(20, 6, PLAIN, 3), "rather(0, #, 0)", 1, 4, (x, n) -> x.rather(0, n, 0), n -> 19);
        Edges.bounds(check, () -> at(20, 6, PLAIN, 3), "rather(0, 1, #)", 0, 1, (x, w) -> x.rather(0, 1, w), w -> w == 0 ? 19 : 1);
        Edges.bounds(check, () -> Edges.on(20, 6, 0, 0, 0, 0), "rather(#, 1, 0)", 0, 3, (x, i) -> x.rather(i, 1, 0), i -> 19);
    }

    @Says({"the SQUARE (0 .. L less 1) from which most rows of n throws have one HOME", "how many rows."})
    static void promise19_fromNoughtToTheLastButOne(Check check) {
        SnakeLadders x = Edges.on(20, 6, PLAIN);
        for (int a = 1; a <= 6; a++) {
            x.link(PLAIN, a, 20);
        }
        check.asked("square 0", x, () -> x.rather(0, 1, 0), 0);
        check.asked("square 0: rows", x, () -> x.rather(0, 1, 1), 6);
        for (int l : new int[] {10, 40}) {
            SnakeLadders y = Edges.on(l, 6, LUCKY);
            check.asked("the last but one of " + l, y, () -> y.rather(0, 1, 0), l - 1);
            check.asked("the last but one of " + l + ": rows", y, () -> y.rather(0, 4, 1), 1296);
        }
        SnakeLadders z = Edges.on(20, 6, CHEAT);
        check.asked("a cheat, two of six", z, () -> z.rather(0, 1, 0), 18);
        check.asked("a cheat, two of six: rows", z, () -> z.rather(0, 1, 1), 2);
    }

    @Says("of like ones the greatest")
    static void promise19_ofLikeOnesTheGreatest(Check check) {
        SnakeLadders x = Edges.on(20, 6, PLAIN);
        x.link(PLAIN, 2, 20);
        x.link(PLAIN, 4, 20);
        // from 0 and from 1 two throws have one HOME, from the squares behind them one at most
        check.asked("0 or 1", x, () -> x.rather(0, 1, 0), 1);
        check.asked("0 or 1: rows", x, () -> x.rather(0, 1, 1), 2);
        SnakeLadders y = Edges.on(20, 6, PLAIN);
        check.asked("14 .. 19", y, () -> y.rather(0, 1, 0), 19);
    }

    @Says("(LINKS USED as now)")
    static void promise19_linksUsedAsNow(Check check) {
        SnakeLadders x = Edges.on(20, 6, PLAIN, PLAIN);
        x.link(BROKEN, 2, 20);
        x.link(PLAIN, 4, 20);
        check.asked("not broken yet", x, () -> x.rather(0, 1, 0), 1);
        x.rolls(1, 2);
        check.asked("broken", x, () -> x.rather(0, 1, 0), 19);
        check.asked("broken: rows", x, () -> x.rather(0, 1, 1), 1);
        x.undo();
        check.asked("broken, undone", x, () -> x.rather(0, 1, 1), 2);
    }

    @Says("RATHER for a PLAYER")
    static void promise19_whereverOneIsNow(Check check) {
        for (int p : new int[] {0, 7, 20}) {
            Edges.asked(check, () -> at(20, 6, PLAIN, p), "on " + p + ": rather(0, 2, 0)", x -> x.rather(0, 2, 0), 19);
            Edges.asked(check, () -> at(20, 6, PLAIN, p), "on " + p + ": rather(0, 2, 1)", x -> x.rather(0, 2, 1), 11);
        }
    }

    @Says("(Nothing is changed by these;")
    static void promise19_oneQuestionDoesNotReachTheNext(Check check) {
        SnakeLadders x = at(20, 6, PLAIN, 3);
        check.due("rather(0, 4, 1)", x.rather(0, 4, 1), 671);
        check.due("without(0, 1, 0), no links", x.without(0, 1, 0), NONE);
        check.due("rather(0, 1, 1)", x.rather(0, 1, 1), 1);
        check.due("without(0, 1, 1), no links", x.without(0, 1, 1), NONE);
        x.link(PLAIN, 19, 1);
        check.due("rather(0, 4, 0)", x.rather(0, 4, 0), 19);
        check.due("without(0, 1, 0)", x.without(0, 1, 0), 0);
        check.due("without(0, 1, 1)", x.without(0, 1, 1), 0);
        check.due("rather(0, 1, 0)", x.rather(0, 1, 0), 19);
    }

    // ---- promise 20

    private static SnakeLadders withLinks() {
        SnakeLadders x = at(10, 6, PLAIN, 8);
        for (int a = 1; a <= 5; a++) {
            x.link(PLAIN, a, 0);
        }
        x.link(PLAIN, 9, 0);
        return x;
    }

    @Says({"WITHOUT for a PLAYER and n (1 .. 4)", "WITHOUT: the LINK (0), how many rows (1). NONE. BAD."})
    static void promise20_oneToFourThrows(Check check) {
        // from 8: 2 has one HOME, 1 leads back, the others stay. Without the last link 1 leads to 9, and home by 1
        int[] rows = {0, 1, 11, 91, 671};
        Edges.bounds(check, EdgesOfWhereTest::withLinks, "without(0, #, 1)", 1, 4, (x, n) -> x.without(0, n, 1), n -> rows[n]);
        Edges.bounds(check, EdgesOfWhereTest::withLinks, "without(0, 2, #)", 0, 1, (x, w) -> x.without(0, 2, w), w -> w == 0 ? 5 : 11);
        Edges.bounds(check, Edges::crowded, "without(#, 1, 0)", 0, 3, (x, i) -> x.without(i, 1, 0), i -> 0);
    }

    @Says("none: no LINKS")
    static void promise20_noneWithoutLinks(Check check) {
        for (int n = 1; n <= 4; n++) {
            int many = n;
            Edges.asked(check, () -> at(10, 6, PLAIN, 8), "without(0, " + n + ", 0)", x -> x.without(0, many, 0), NONE);
            Edges.asked(check, () -> at(10, 6, PLAIN, 8), "without(0, " + n + ", 1)", x -> x.without(0, many, 1), NONE);
        }
        Edges.asked(check, () -> at(10, 6, PLAIN, 10), "HOME", x -> x.without(0, 1, 0), NONE);
        Edges.bad(check, () -> at(10, 6, PLAIN, 8), "without(0, 0, 0)", x -> x.without(0, 0, 0));
        Edges.bad(check, () -> at(10, 6, PLAIN, 8), "without(0, 5, 0)", x -> x.without(0, 5, 0));
        Edges.bad(check, () -> at(10, 6, PLAIN, 8), "without(0, 1, 2)", x -> x.without(0, 1, 2));
        Edges.bad(check, () -> at(10, 6, PLAIN, 8), "without(1, 1, 0)", x -> x.without(1, 1, 0));
    }

    @Says({"of like ones the least", "the LINK without which most rows of n throws", "how many rows; none"})
    static void promise20_ofLikeOnesTheLeast(Check check) {
        Edges.asked(check, EdgesOfWhereTest::withLinks, "without(0, 1, 0), all alike", x -> x.without(0, 1, 0), 0);
        Edges.asked(check, EdgesOfWhereTest::withLinks, "without(0, 2, 0), the last", x -> x.without(0, 2, 0), 5);
        SnakeLadders x = at(20, 6, PLAIN, 0);
        x.link(PLAIN, 6, 20);
        check.asked("one link, no row without it", x, () -> x.without(0, 1, 0), 0);
        check.asked("one link, no row without it: rows", x, () -> x.without(0, 1, 1), 0);
        x.link(PLAIN, 5, 20);
        x.link(PLAIN, 4, 1);
        check.asked("the third, not the ladders", x, () -> x.without(0, 1, 0), 2);
        check.asked("the third, not the ladders: rows", x, () -> x.without(0, 1, 1), 2);
    }

    @Says("have one HOME from where one is")
    static void promise20_oneWhoIsHomeIsHomeByAllRows(Check check) {
        SnakeLadders x = withLinks();
        x.sets(0, 10);
        int rows = 1;
        for (int n = 1; n <= 4; n++) {
            int many = n;
            rows *= 6;
            check.asked("HOME: without(0, " + n + ", 0)", x, () -> x.without(0, many, 0), 0);
            check.asked("HOME: without(0, " + n + ", 1)", x, () -> x.without(0, many, 1), rows);
        }
    }

    @Says("(Nothing is changed by these;")
    static void promise20_theLinksStay(Check check) {
        for (int n = 1; n <= 4; n++) {
            int many = n;
            Edges.asked(check, Edges::lively, "without(0, " + n + ", 0)", x -> x.without(0, many, 0) < 0 ? 1 : 0, 0);
            Edges.asked(check, Edges::crowded, "without(2, " + n + ", 0)", x -> x.without(2, many, 0) < 0 ? 1 : 0, 0);
        }
    }

    // ---- promise 21

    @Says({"SPAN for a PLAYER and n (0 .. 4)", "SPAN: how many (0), the least (1), the greatest (2). BAD."})
    static void promise21_noughtToFourThrows(Check check) {
        Edges.bounds(check, () -> at(40, 6, PLAIN, 3), "span(0, #, 0)", 0, 4, (x, n) -> x.span(0, n, 0), n -> 5 * n + 1);
        Edges.bounds(check, () -> at(40, 6, PLAIN, 3), "span(0, #, 1)", 0, 4, (x, n) -> x.span(0, n, 1), n -> n + 3);
        Edges.bounds(check, () -> at(40, 6, PLAIN, 3), "span(0, #, 2)", 0, 4, (x, n) -> x.span(0, n, 2), n -> 6 * n + 3);
        Edges.bounds(check, () -> at(40, 6, PLAIN, 3), "span(0, 1, #)", 0, 2, (x, w) -> x.span(0, 1, w), w -> w == 0 ? 6 : 9);
        Edges.bounds(check, Edges::crowded, "span(#, 0, 0)", 0, 3, (x, i) -> x.span(i, 0, 0), i -> 1);
    }

    @Says("the least; the greatest of these")
    static void promise21_noughtMayBeTheGreatest(Check check) {
        SnakeLadders x = at(40, 2, PLAIN, 0);
        check.asked("no throw: how many", x, () -> x.span(0, 0, 0), 1);
        check.asked("no throw: the least", x, () -> x.span(0, 0, 1), 0);
        check.asked("no throw: the greatest", x, () -> x.span(0, 0, 2), 0);
        x.link(PLAIN, 1, 0);
        x.link(PLAIN, 2, 0);
        check.asked("led back always: how many", x, () -> x.span(0, 4, 0), 1);
        check.asked("led back always: the least", x, () -> x.span(0, 4, 1), 0);
        check.asked("led back always: the greatest", x, () -> x.span(0, 4, 2), 0);
    }

    @Says("on how many unlike SQUARES one may be behind n throws; the least; the greatest of these")
    static void promise21_fromNoughtToTheLastSquare(Check check) {
        SnakeLadders x = at(40, 6, PLAIN, 0);
        x.link(PLAIN, 1, 40);
        x.link(PLAIN, 2, 0);
        x.link(PLAIN, 3, 4);
        // by 1 .. 6: 40 0 4 4 5 6
        check.asked("how many", x, () -> x.span(0, 1, 0), 5);
        check.asked("the least", x, () -> x.span(0, 1, 1), 0);
        check.asked("the greatest", x, () -> x.span(0, 1, 2), 40);
        x.sets(0, 40);
        for (int n = 0; n <= 4; n++) {
            int many = n;
            check.asked("HOME: how many", x, () -> x.span(0, many, 0), 1);
            check.asked("HOME: the least", x, () -> x.span(0, many, 1), 40);
            check.asked("HOME: the greatest", x, () -> x.span(0, many, 2), 40);
        }
    }
}
