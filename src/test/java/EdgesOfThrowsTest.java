/** The edges of promises 9 to 13: rolls (with what players and links do at the edges), sets, undo, of, about. */
public final class EdgesOfThrowsTest {
    private static final int L = 20;
    private static final int PLAIN = 0, BOUNCER = 1, TIMID = 2, CHEAT = 3, LUCKY = 4, LIMPER = 5;
    private static final int SLEEPY = 1, GREASED = 2, BROKEN = 3, GENEROUS = 4, OILED = 5;

    public static void main(String[] args) throws Exception {
        Edges.run(EdgesOfThrowsTest.class, 9, 13);
    }

    /** One of this kind on p comes by 1 .. 6 to these squares. */
    private static void comes(Check check, int kind, int p, int... due) {
        for (int r = 1; r <= 6; r++) {
            SnakeLadders x = Edges.on(L, 6, kind);
            x.sets(0, p);
            String call = "kind " + kind + " on " + p + ": rolls(0, " + r + ")";
            check.due(call, x.rolls(0, r), due[r - 1]);
            check.due(call + ", then count(4)", x.count(4), due[r - 1] == L ? 1 : 0);
            check.due(call + ", then of(0, 2)", x.of(0, 2), 1);
        }
    }

    /** A link from 10 to b, used u times, leads by 1 .. 6 to these squares. */
    private static void leads(Check check, int kind, int b, int u, int... due) {
        SnakeLadders x = Edges.on(L, 6, PLAIN);
        x.link(kind, 10, b);
        use(x, 0, u);
        x.image(0);
        for (int r = 1; r <= 6; r++) {
            x.from(0);
            x.sets(0, 10 - r);
            String call = "link " + kind + " to " + b + ", used " + u + ": rolls(0, " + r + ")";
            check.due(call, x.rolls(0, r), due[r - 1]);
            check.due(call + ", then about(0, 3)", x.about(0, 3), Math.min(99, u + 1));
        }
    }

    private static void use(SnakeLadders x, int k, int times) {
        for (int n = 0; n < times; n++) {
            x.sets(0, x.about(k, 1) - 1);
            x.rolls(0, 1);
        }
    }

    private static void same(Check check, int kind, int b, int u, int due) {
        leads(check, kind, b, u, due, due, due, due, due, due);
    }

    // ---- promise 9: the call

    @Says({"A THROW r (1 .. D) of a PLAYER not HOME", "one goes to the SQUARE told"})
    static void promise09_throwsOneToTheSidesOfTheDie(Check check) {
        for (int d = 2; d <= 6; d++) {
            int sides = d;
            Edges.bounds(check, () -> Edges.on(L, sides, PLAIN), "of " + d + " sides: rolls(0, #)", 1, d,
                (x, r) -> x.rolls(0, r), r -> r);
        }
        Edges.bounds(check, Edges::lively, "rolls(0, #)", 1, 4, (x, r) -> x.rolls(0, r), r -> r == 4 ? 9 : 9 + r);
    }

    @Says("PLAYERS 0 .. 3, as they come")
    static void promise09_playersThatAreThere(Check check) {
        Edges.bounds(check, () -> Edges.on(L, 6, 0, 0, 0, 0), "of 4: rolls(#, 2)", 0, 3, (x, i) -> x.rolls(i, 2), i -> 2);
        Edges.bounds(check, () -> Edges.on(L, 6, 0), "of 1: rolls(#, 2)", 0, 0, (x, i) -> x.rolls(i, 2), i -> 2);
    }

    @Says("A THROW: the SQUARE then. BAD; NO: one is HOME.")
    static void promise09_oneWhoIsHomeIsNo(Check check) {
        Edges.no(check, Edges::lively, "rolls(1, 1)", x -> x.rolls(1, 1));
        Edges.no(check, Edges::lively, "rolls(1, 4)", x -> x.rolls(1, 4));
        Edges.no(check, Edges::crowded, "rolls(3, 1)", x -> x.rolls(3, 1));
        Edges.bad(check, Edges::lively, "rolls(1, 5)", x -> x.rolls(1, 5));
        Edges.bad(check, Edges::lively, "rolls(1, 0)", x -> x.rolls(1, 0));
        for (int kind = PLAIN; kind <= LIMPER; kind++) {
            SnakeLadders x = Edges.on(L, 6, kind);
            x.sets(0, L);
            check.no("kind " + kind + ", HOME", x, () -> x.rolls(0, 1));
        }
        SnakeLadders x = Edges.on(L, 6, PLAIN);
        x.sets(0, L - 1);
        check.due("one ahead of it", x.rolls(0, 2), L - 1);
    }

    @Says("THROWS are one more (9999 at most)")
    static void promise09_throwsAreOneMoreOfThatOneAlone(Check check) {
        SnakeLadders x = Edges.on(L, 6, PLAIN, PLAIN);
        x.sets(0, L - 1);
        for (int n = 1; n <= 20; n++) {
            x.rolls(0, 6);
            check.due("throws of one who stays", x.of(0, 2), n);
        }
        check.due("throws of the other", x.of(1, 2), 0);
        check.due("throws of all", x.count(5), 20);
    }

    /** Nothing is promised behind the 512th call; the class holds the bound there, too. */
    @Says("THROWS are one more (9999 at most)")
    static void promise09_throwsStopAtTheirBound(Check check) {
        SnakeLadders x = Edges.on(L, 6, PLAIN);
        x.sets(0, L - 1);
        for (int n = 1; n < 9999; n++) {
            x.rolls(0, 6);
        }
        check.due("9998 throws", x.of(0, 2), 9998);
        x.rolls(0, 6);
        check.due("9999 throws", x.of(0, 2), 9999);
        check.due("the 10000th", x.rolls(0, 6), L - 1);
        check.due("9999 throws, still", x.of(0, 2), 9999);
        check.due("of all", x.count(5), 9999);
        x.undo();
        check.due("the 10000th undone", x.of(0, 2), 9999);
        x.undo();
        check.due("the 9999th undone", x.of(0, 2), 9998);
    }

    // ---- promise 9: kinds of players at the edges

    @Says({"0 PLAIN: p and r, but p, if that is beyond L.",
        "KINDS of PLAYERS, each under the one told, say to which SQUARE one goes from p by a throw r"})
    static void promise09_plainStaysIfItIsBeyond(Check check) {
        comes(check, PLAIN, 14, 15, 16, 17, 18, 19, 20);
        comes(check, PLAIN, 15, 16, 17, 18, 19, 20, 15);
        comes(check, PLAIN, 18, 19, 20, 18, 18, 18, 18);
        comes(check, PLAIN, 19, 20, 19, 19, 19, 19, 19);
        comes(check, PLAIN, 0, 1, 2, 3, 4, 5, 6);
    }

    @Says("1 BOUNCER (under PLAIN): as PLAIN, but twice L, less p, less r, if p and r are beyond L.")
    static void promise09_bouncerComesBackByWhatIsBeyond(Check check) {
        comes(check, BOUNCER, 14, 15, 16, 17, 18, 19, 20);
        comes(check, BOUNCER, 15, 16, 17, 18, 19, 20, 19);
        comes(check, BOUNCER, 18, 19, 20, 19, 18, 17, 16);
        comes(check, BOUNCER, 19, 20, 19, 18, 17, 16, 15);
        comes(check, BOUNCER, 0, 1, 2, 3, 4, 5, 6);
    }

    @Says("2 TIMID (under PLAIN): as PLAIN by r, but by 3, if r is 6.")
    static void promise09_timidTakesASixForThree(Check check) {
        comes(check, TIMID, 0, 1, 2, 3, 4, 5, 3);
        comes(check, TIMID, 15, 16, 17, 18, 19, 20, 18);
        comes(check, TIMID, 16, 17, 18, 19, 20, 16, 19);
        comes(check, TIMID, 17, 18, 19, 20, 17, 17, 20);
        comes(check, TIMID, 18, 19, 20, 18, 18, 18, 18);
        comes(check, TIMID, 19, 20, 19, 19, 19, 19, 19);
    }

    @Says("3 CHEAT (under PLAIN): as PLAIN by r, but by 2, if r is 1.")
    static void promise09_cheatTakesAOneForTwo(Check check) {
        comes(check, CHEAT, 0, 2, 2, 3, 4, 5, 6);
        comes(check, CHEAT, 14, 16, 16, 17, 18, 19, 20);
        comes(check, CHEAT, 17, 19, 19, 20, 17, 17, 17);
        comes(check, CHEAT, 18, 20, 20, 18, 18, 18, 18);
        comes(check, CHEAT, 19, 19, 19, 19, 19, 19, 19);
    }

    @Says("4 LUCKY (under CHEAT): as CHEAT, but L, if p and r are L or beyond it.")
    static void promise09_luckyIsInAsSoonAsHeIsOverIt(Check check) {
        comes(check, LUCKY, 0, 2, 2, 3, 4, 5, 6);
        comes(check, LUCKY, 13, 15, 15, 16, 17, 18, 19);
        comes(check, LUCKY, 14, 16, 16, 17, 18, 19, 20);
        comes(check, LUCKY, 15, 17, 17, 18, 19, 20, 20);
        comes(check, LUCKY, 18, 20, 20, 20, 20, 20, 20);
        comes(check, LUCKY, 19, 20, 20, 20, 20, 20, 20);
    }

    @Says("5 LIMPER (under TIMID): as TIMID by half (cut up) of r.")
    static void promise09_limperGoesByHalvesCutUp(Check check) {
        comes(check, LIMPER, 0, 1, 1, 2, 2, 3, 3);
        comes(check, LIMPER, 16, 17, 17, 18, 18, 19, 19);
        comes(check, LIMPER, 17, 18, 18, 19, 19, 20, 20);
        comes(check, LIMPER, 18, 19, 19, 20, 20, 18, 18);
        comes(check, LIMPER, 19, 20, 20, 19, 19, 19, 19);
    }

    // ---- promise 9: links at the edges

    @Says({"0 PLAIN: b.", "and a LINK is FROM there", "KINDS of LINKS, each under the one told, "
        + "say to which SQUARE one FROM a TO b leads, USED u times before, by a throw r"})
    static void promise09_aPlainLinkLeadsThere(Check check) {
        same(check, PLAIN, 0, 0, 0);
        same(check, PLAIN, L, 0, L);
        same(check, PLAIN, 3, 1, 3);
        same(check, PLAIN, 3, 99, 3);
    }

    @Says("1 SLEEPY (under PLAIN): as PLAIN, but a, if u is an odd number.")
    static void promise09_aSleepyLinkSleepsEveryOtherTime(Check check) {
        same(check, SLEEPY, 3, 0, 3);
        same(check, SLEEPY, 3, 1, 10);
        same(check, SLEEPY, 3, 2, 3);
        same(check, SLEEPY, L, 98, L);
        same(check, SLEEPY, L, 99, 10);
    }

    @Says("2 GREASED (under PLAIN): 1 less than PLAIN, 0 at least.")
    static void promise09_aGreasedLinkLeadsOneFurtherButNotBelowNought(Check check) {
        same(check, GREASED, 0, 0, 0);
        same(check, GREASED, 1, 0, 0);
        same(check, GREASED, 2, 1, 1);
        same(check, GREASED, 11, 0, 10);
        same(check, GREASED, L, 0, L - 1);
    }

    @Says("3 BROKEN (under SLEEPY): as SLEEPY, but a, if u is 1 or more.")
    static void promise09_aBrokenLinkLeadsTheFirstAlone(Check check) {
        same(check, BROKEN, 15, 0, 15);
        same(check, BROKEN, 15, 1, 10);
        same(check, BROKEN, 15, 2, 10);
        same(check, BROKEN, 15, 98, 10);
        same(check, BROKEN, 15, 99, 10);
    }

    @Says("4 GENEROUS (under PLAIN): PLAIN and r, L at most.")
    static void promise09_aGenerousLinkGivesTheThrowAgainUpToTheLast(Check check) {
        leads(check, GENEROUS, 0, 0, 1, 2, 3, 4, 5, 6);
        leads(check, GENEROUS, 13, 1, 14, 15, 16, 17, 18, 19);
        leads(check, GENEROUS, 14, 0, 15, 16, 17, 18, 19, 20);
        leads(check, GENEROUS, 15, 0, 16, 17, 18, 19, 20, 20);
        leads(check, GENEROUS, 19, 0, 20, 20, 20, 20, 20, 20);
        leads(check, GENEROUS, L, 0, 20, 20, 20, 20, 20, 20);
    }

    @Says("5 OILED (under GREASED): GREASED, and 1 less for each whole 3 of r, 0 at least.")
    static void promise09_anOiledLinkLeadsFurtherForEachWholeThree(Check check) {
        leads(check, OILED, 0, 0, 0, 0, 0, 0, 0, 0);
        leads(check, OILED, 1, 0, 0, 0, 0, 0, 0, 0);
        leads(check, OILED, 2, 1, 1, 1, 0, 0, 0, 0);
        leads(check, OILED, 3, 0, 2, 2, 1, 1, 1, 0);
        leads(check, OILED, 4, 0, 3, 3, 2, 2, 2, 1);
        leads(check, OILED, L, 0, 19, 19, 18, 18, 18, 17);
    }

    @Says("if one went to another SQUARE than before")
    static void promise09_oneWhoStaysOnALinkIsNotLed(Check check) {
        for (int kind : new int[] {PLAIN, TIMID, CHEAT, LIMPER}) {
            SnakeLadders x = Edges.on(L, 6, kind);
            x.link(PLAIN, 19, 2);
            x.sets(0, 19);
            check.due("kind " + kind + " stays", x.rolls(0, 5), 19);
            check.due("kind " + kind + " stays: used", x.about(0, 3), 0);
            check.due("kind " + kind + " stays: throws", x.of(0, 2), 1);
        }
        for (int far = 1; far <= 3; far++) {
            SnakeLadders x = Edges.on(L, 6, BOUNCER);
            x.link(PLAIN, L - far, 2);
            x.sets(0, L - far);
            check.due("bounced back to " + (L - far), x.rolls(0, 2 * far), L - far);
            check.due("bounced back: used", x.about(0, 3), 0);
            x.sets(0, L - far - 1);
            check.due("come to it", x.rolls(0, 1), 2);
        }
    }

    @Says("(once; not by a LINK from where that leads)")
    static void promise09_ledOnceOnly(Check check) {
        SnakeLadders x = Edges.on(L, 6, PLAIN);
        x.link(PLAIN, 3, 8);
        x.link(PLAIN, 8, 12);
        x.link(GREASED, 12, 4);
        check.due("rolls(0, 3)", x.rolls(0, 3), 8);
        check.due("used of the first", x.about(0, 3), 1);
        check.due("used of the second", x.about(1, 3), 0);
        check.due("rolls(0, 4), from where it led", x.rolls(0, 4), 3);
        check.due("used of the first, still", x.about(0, 3), 1);
    }

    @Says("it leads on by the same throw")
    static void promise09_ledByTheNumberThrown(Check check) {
        SnakeLadders x = Edges.on(L, 6, TIMID, CHEAT, LIMPER);
        x.link(GENEROUS, 3, 6);
        x.link(GENEROUS, 2, 12);
        check.due("a timid one's six", x.rolls(0, 6), 12);
        check.due("a cheat's one", x.rolls(1, 1), 13);
        check.due("a limper's five", x.rolls(2, 5), 11);
    }

    @Says("it leads on by the same throw")
    static void promise09_ledBackToWhereOneWasOrIsStillAUse(Check check) {
        SnakeLadders x = Edges.on(L, 6, PLAIN);
        x.link(PLAIN, 3, 0);
        x.link(GREASED, 5, 6);
        check.due("back to where one was", x.rolls(0, 3), 0);
        check.due("back: used", x.about(0, 3), 1);
        check.due("to where it is from", x.rolls(0, 5), 5);
        check.due("to where it is from: used", x.about(1, 3), 1);
    }

    @Says("HOME on SQUARE L")
    static void promise09_ledHome(Check check) {
        SnakeLadders x = Edges.on(L, 6, PLAIN);
        x.link(GENEROUS, 3, 18);
        check.due("rolls(0, 3)", x.rolls(0, 3), L);
        check.due("count(4)", x.count(4), 1);
        check.no("rolls(0, 1)", x, () -> x.rolls(0, 1));
    }

    @Says("USED once more (99 at most)")
    static void promise09_usesStopAtNinetyNine(Check check) {
        SnakeLadders x = Edges.on(L, 6, PLAIN);
        x.link(SLEEPY, 10, 3);
        use(x, 0, 98);
        check.due("98", x.about(0, 3), 98);
        use(x, 0, 1);
        check.due("99", x.about(0, 3), 99);
        check.due("99: asleep", x.of(0, 1), 3);
        use(x, 0, 1);
        check.due("99, still", x.about(0, 3), 99);
        check.due("still asleep", x.of(0, 1), 10);
        use(x, 0, 1);
        check.due("asleep for good", x.of(0, 1), 10);
        check.due("of all", x.count(6), 99);
    }

    // ---- promise 10

    @Says("A counter is set on a SQUARE (0 .. L): where it was.")
    static void promise10_onSquaresNoughtToTheLast(Check check) {
        Edges.bounds(check, Edges::lively, "sets(0, #)", 0, 12, (x, p) -> x.sets(0, p), p -> 9);
        Edges.bounds(check, Edges::crowded, "sets(2, #)", 0, 40, (x, p) -> x.sets(2, p), p -> 9);
    }

    @Says("PLAYERS 0 .. 3, as they come")
    static void promise10_playersThatAreThere(Check check) {
        Edges.bounds(check, () -> Edges.on(L, 6, 0, 0, 0, 0), "sets(#, 2)", 0, 3, (x, i) -> x.sets(i, 2), i -> 0);
        Edges.bounds(check, Edges::lively, "sets(#, 1)", 0, 2, (x, i) -> x.sets(i, 1), i -> i == 0 ? 9 : 3);
    }

    @Says("BAD; NO: it is there.")
    static void promise10_whereItIsIsNo(Check check) {
        Edges.no(check, Edges::lively, "sets(0, 9)", x -> x.sets(0, 9));
        Edges.no(check, Edges::lively, "sets(1, 12), HOME", x -> x.sets(1, 12));
        Edges.no(check, () -> Edges.on(L, 6, 0), "sets(0, 0)", x -> x.sets(0, 0));
        Edges.bad(check, Edges::lively, "sets(3, 0)", x -> x.sets(3, 0));
    }

    @Says("HOME on SQUARE L")
    static void promise10_onTheLastOneIsHomeAndMayBeSetOff(Check check) {
        SnakeLadders x = Edges.on(L, 6, PLAIN);
        check.due("sets(0, 20)", x.sets(0, L), 0);
        check.due("count(4)", x.count(4), 1);
        check.due("sets(0, 19)", x.sets(0, L - 1), L);
        check.due("count(4) then", x.count(4), 0);
        check.due("rolls(0, 1)", x.rolls(0, 1), L);
    }

    @Says("A counter is set on a SQUARE (0 .. L)")
    static void promise10_itIsNoThrowAndLeadsNowhere(Check check) {
        SnakeLadders x = Edges.on(L, 6, PLAIN, PLAIN);
        x.link(PLAIN, 3, 9);
        x.sets(0, 3);
        check.due("square", x.of(0, 1), 3);
        check.due("throws", x.of(0, 2), 0);
        check.due("used", x.about(0, 3), 0);
        check.due("the other", x.of(1, 1), 0);
        check.due("to undo", x.count(9), 1);
        check.due("rolls(0, 1), off it", x.rolls(0, 1), 4);
    }

    // ---- promise 11

    @Says("UNDO: how many are HOME then. NO: none may be.")
    static void promise11_noneMayBe(Check check) {
        Edges.no(check, () -> Edges.on(L, 6, 0), "undo()", SnakeLadders::undo);
        SnakeLadders x = Edges.on(L, 6, 0);
        x.rolls(0, 1);
        check.due("undo() of one", x.undo(), 0);
        check.no("undo() again", x, x::undo);
    }

    @Says("how many are HOME then")
    static void promise11_tellsHowManyAreHomeThen(Check check) {
        SnakeLadders x = Edges.on(L, 6, 0, 0, 0, 0);
        for (int i = 0; i < 4; i++) {
            x.sets(i, L);
        }
        x.sets(3, 1);
        check.due("undo(), set off HOME", x.undo(), 4);
        for (int left = 3; left >= 0; left--) {
            check.due("undo()", x.undo(), left);
        }
    }

    @Says("(8 at most;")
    static void promise11_eightAtMost(Check check) {
        SnakeLadders x = Edges.on(L, 6, 0);
        for (int n = 1; n <= 12; n++) {
            x.rolls(0, 1);
            check.due("to undo behind " + n, x.count(9), Math.min(8, n));
        }
        for (int n = 1; n <= 8; n++) {
            check.due("undo, number " + n, x.undo(), 0);
            check.due("square", x.of(0, 1), 12 - n);
            check.due("throws", x.of(0, 2), 12 - n);
        }
        check.no("undo, number 9", x, x::undo);
        check.due("square then", x.of(0, 1), 4);
    }

    @Says("UNDO: SQUARES of PLAYERS, THROWS, USED as ahead of the last THROW, counter set")
    static void promise11_squaresThrowsAndUsesAsAheadOfIt(Check check) {
        SnakeLadders x = Edges.on(L, 6, PLAIN, PLAIN);
        x.link(SLEEPY, 3, 9);
        x.link(PLAIN, 4, 1);
        long[] states = new long[9];
        for (int n = 0; n < 8; n++) {
            states[n] = x.digest();
            switch (n) {
                case 0: x.rolls(0, 3); break;
                case 1: x.rolls(1, 3); break;
                case 2: x.sets(0, L - 1); break;
                case 3: x.rolls(0, 4); break;
                case 4: x.rolls(1, 1); break;
                case 5: x.rolls(0, 1); break;
                case 6: x.sets(0, 0); break;
                default: x.rolls(0, 4); break;
            }
        }
        for (int n = 7; n >= 0; n--) {
            x.undo();
            check.due("undone, number " + n, x.digest(), states[n]);
        }
    }

    @Says("USED as ahead of the last THROW")
    static void promise11_usesAtTheirBoundAreAsAheadOfIt(Check check) {
        SnakeLadders x = Edges.on(L, 6, PLAIN);
        x.link(SLEEPY, 10, 3);
        use(x, 0, 101);
        int[] due = {99, 99, 99, 99, 98, 98};
        for (int n = 0; n < due.length; n++) {
            x.undo();
            check.due("used behind undo " + n, x.about(0, 3), due[n]);
        }
    }

    @Says("behind a LINK, a PLAYER that comes, a DIE told none may be")
    static void promise11_noneBehindALinkAPlayerADie(Check check) {
        for (int n = 0; n < 5; n++) {
            SnakeLadders x = Edges.lively();
            switch (n) {
                case 0: x.link(0, 1, 2); break;
                case 1: x.player(0); break;
                case 2: x.die(4); break;
                case 3: x.board(12, 4); break;
                default: x.read(); break;
            }
            check.due("case " + n + ": to undo", x.count(9), 0);
            check.no("case " + n + ": undo()", x, x::undo);
        }
    }

    @Says("SQUARES of PLAYERS, THROWS, USED as ahead of the last THROW, counter set")
    static void promise11_whatElseIsDoneBetweenStays(Check check) {
        SnakeLadders x = Edges.lively();
        x.note(1, 0, 1, 3);
        x.mark(0, 0, 1, 1);
        x.type(' ');
        x.home(0, 0);
        x.image(1);
        x.rolls(0, 9);
        check.due("to undo", x.count(9), 4);
        check.due("undo()", x.undo(), 1);
        check.due("notes", x.count(7), 2);
        check.due("marks", x.count(8), 2);
        check.due("text", x.count(10), 31);
        check.due("fraction", x.part(1), 1);
        check.due("status", x.status(0), 1);
        x.from(1);
        check.due("the image keeps 4", x.count(9), 4);
    }

    @Says("ahead of the last THROW, counter set")
    static void promise11_refusedMovesAreNotUndone(Check check) {
        SnakeLadders x = Edges.on(L, 6, 0, 0);
        x.rolls(0, 2);
        x.sets(0, 2);
        x.sets(0, 21);
        x.rolls(0, 7);
        check.due("to undo", x.count(9), 1);
        x.undo();
        check.due("undone", x.of(0, 1), 0);
        x.rolls(0, 5);
        check.due("undo() of what came behind an undo", x.undo(), 0);
        check.due("undone", x.of(0, 1), 0);
        check.no("undo() of none", x, x::undo);
    }

    // ---- promises 12 and 13

    @Says("Of a PLAYER: KIND (0), SQUARE (1), THROWS (2). BAD.")
    static void promise12_kindSquareAndThrows(Check check) {
        int[] due = {4, 3, 1};
        Edges.bounds(check, Edges::lively, "of(2, #)", 0, 2, (x, what) -> x.of(2, what), what -> due[what]);
        Edges.asked(check, Edges::lively, "of(2, 1)", x -> x.of(2, 1), 3);
        SnakeLadders x = Edges.on(40, 6, 5);
        x.sets(0, 40);
        check.due("the last square", x.of(0, 1), 40);
        check.due("the last kind", x.of(0, 0), 5);
    }

    @Says("PLAYERS 0 .. 3, as they come")
    static void promise12_playersThatAreThere(Check check) {
        Edges.bounds(check, Edges::crowded, "of(#, 0)", 0, 3, (x, i) -> x.of(i, 0), i -> i);
        Edges.bounds(check, Edges::lively, "of(#, 0)", 0, 2, (x, i) -> x.of(i, 0), i -> i == 0 ? 0 : 4);
        Edges.bad(check, SnakeLadders::new, "of(0, 0)", x -> x.of(0, 0));
        Edges.bad(check, Edges::lively, "of(3, 3)", x -> x.of(3, 3));
    }

    @Says("Of a LINK: KIND (0), FROM (1), TO (2), USED (3). BAD.")
    static void promise13_kindFromToAndUses(Check check) {
        int[] due = {1, 3, 8, 2};
        Edges.bounds(check, Edges::lively, "about(0, #)", 0, 3, (x, what) -> x.about(0, what), what -> due[what]);
        Edges.asked(check, Edges::lively, "about(0, 1)", x -> x.about(0, 1), 3);
        Edges.asked(check, Edges::lively, "about(0, 2)", x -> x.about(0, 2), 8);
    }

    @Says("LINKS 0 .. 5, as they come")
    static void promise13_linksThatAreThere(Check check) {
        Edges.bounds(check, Edges::crowded, "about(#, 0)", 0, 5, (x, k) -> x.about(k, 0), k -> k);
        Edges.bounds(check, Edges::lively, "about(#, 0)", 0, 1, (x, k) -> x.about(k, 0), k -> k == 0 ? 1 : 4);
        Edges.bad(check, SnakeLadders::new, "about(0, 0)", x -> x.about(0, 0));
        Edges.bad(check, Edges::lively, "about(2, 4)", x -> x.about(2, 4));
    }
}
