/** The edges of promises 6 to 8: type, clear, read, with each case of a FAULT. */
public final class EdgesOfTheTextTest {
    private static final String B = "board 20 6;";
    private static final String SIX_LINKS = "link 0 1 2;link 0 2 3;link 0 3 4;link 0 4 5;link 0 5 6;link 0 6 7;";
    private static final String FOUR_PLAYERS = "player 0;player 1;player 2;player 5;";
    private static final String ONE = B + "player 0;";

    public static void main(String[] args) throws Exception {
        Edges.run(EdgesOfTheTextTest.class, 6, 8);
    }

    /** The text is read: so many items. */
    private static SnakeLadders whole(Check check, String text, int items) {
        SnakeLadders x = Edges.typed(Edges.lively(), text);
        check.due("read() of '" + text + "'", x.read(), items);
        return x;
    }

    /** The text is not read, and all stays; the place is where | stands in it. */
    private static void fault(Check check, String marked) {
        int place = marked.indexOf('|');
        fault(check, marked.replace("|", ""), place);
    }

    private static void fault(Check check, String text, int place) {
        Edges.asked(check, () -> Edges.typed(Edges.lively(), text), "read() of '" + text + "'", SnakeLadders::read, -10 - place);
    }

    // ---- promise 6

    @Says("A byte (0 .. 127) comes behind THE TEXT: how many it has. BAD; FULL.")
    static void promise06_bytesNoughtToTheLastOfSevenBits(Check check) {
        Edges.bounds(check, SnakeLadders::new, "type(#)", 0, 127, (x, c) -> x.type(c), c -> 1);
        Edges.bounds(check, Edges::lively, "type(#)", 0, 127, (x, c) -> x.type(c), c -> 31);
        Edges.bad(check, Edges::lively, "type(256 and a blank)", x -> x.type(256 + ' '));
    }

    @Says("THE BOARD is told by a TEXT (150 bytes at most)")
    static void promise06_theLastByteIsTakenTheNextIsFull(Check check) {
        SnakeLadders x = new SnakeLadders();
        for (int n = 1; n <= 150; n++) {
            check.due("type, number " + n, x.type('a' + n % 26), n);
        }
        check.due("count(10)", x.count(10), 150);
        check.full("type, one more", x, () -> x.type('a'));
        Edges.full(check, Edges::crowded, "type(0), one more", y -> y.type(0));
        Edges.full(check, Edges::crowded, "type(127), one more", y -> y.type(127));
    }

    @Says("the first of: BAD -2 a number is not as told; NO -3 as told; FULL -4")
    static void promise06_badThenFull(Check check) {
        Edges.bad(check, Edges::crowded, "type(-1), one more", x -> x.type(-1));
        Edges.bad(check, Edges::crowded, "type(128), one more", x -> x.type(128));
    }

    @Says("A byte (0 .. 127) comes behind THE TEXT")
    static void promise06_nothingElseIsChanged(Check check) {
        SnakeLadders x = Edges.lively();
        SnakeLadders twin = Edges.lively();
        x.type(' ');
        Edges.countsStay(check, x, twin, 10);
        check.due("undo()", x.undo(), twin.undo());
        check.due("undone", x.of(0, 1), twin.of(0, 1));
    }

    // ---- promise 7

    @Says("THE TEXT is empty: how many it had.")
    static void promise07_ofNoneAndOfAll(Check check) {
        SnakeLadders x = Edges.crowded();
        check.due("clear() of all", x.clear(), 150);
        check.due("count(10)", x.count(10), 0);
        check.due("clear() of none", x.clear(), 0);
        check.due("type(' ') then", x.type(' '), 1);
        check.due("clear() of one", x.clear(), 1);
        check.due("status(0)", x.status(0), 0);
    }

    @Says("THE TEXT is empty")
    static void promise07_whatStoodThereIsGone(Check check) {
        SnakeLadders x = Edges.typed(new SnakeLadders(), ONE);
        x.clear();
        check.due("read() of none", x.read(), -10);
        Edges.typed(x, B);
        check.due("read() of a shorter one", x.read(), 1);
        Edges.typed(x, "board 2");
        Edges.typed(x, "board ");
        check.due("read() of one that ends within", x.read(), -16);
    }

    @Says("THE TEXT is empty")
    static void promise07_nothingElseIsChanged(Check check) {
        SnakeLadders x = Edges.lively();
        SnakeLadders twin = Edges.lively();
        x.clear();
        Edges.countsStay(check, x, twin, 10);
        check.due("undo()", x.undo(), twin.undo());
        check.due("undone", x.of(0, 1), twin.of(0, 1));
    }

    // ---- promise 8: what is read

    @Says({"THE BOARD is read: how many ITEMS.", "of ITEMS, each ended by ;"})
    static void promise08_itemsFromOneToAsManyAsFit(Check check) {
        whole(check, B, 1);
        whole(check, ONE, 2);
        String sets = "board 10 2;player 0;" + "set 0 1;".repeat(16);
        whole(check, sets, 18);
        whole(check, sets + "  ", 18);
        check.due("150 bytes", Edges.typed(new SnakeLadders(), sets + "  ").count(10), 150);
    }

    @Says("(150 bytes at most)")
    static void promise08_theLastOfAllBytesCounts(Check check) {
        String text = B + " ".repeat(130) + "player 4;";
        check.due("bytes", text.length(), 150);
        check.due("a player at the end", whole(check, text, 2).of(0, 0), 4);
        fault(check, text.substring(0, 149) + ":", 149);
    }

    @Says({"board L D (once, first of all)", "L 10 .. 40"})
    static void promise08_boardFromTheLeastToTheGreatest(Check check) {
        for (int[] ld : new int[][] {{10, 2}, {10, 6}, {40, 2}, {40, 6}}) {
            SnakeLadders x = whole(check, "board " + ld[0] + " " + ld[1] + ";", 1);
            check.due("L", x.count(0), ld[0]);
            check.due("D", x.count(1), ld[1]);
        }
        fault(check, "board |9 6;");
        fault(check, "board |41 6;");
        fault(check, "board |0 6;");
        fault(check, "board |99 6;");
        fault(check, "board 20 |1;");
        fault(check, "board 20 |7;");
        fault(check, "board 20 |0;");
        fault(check, "board 20 |10;");
    }

    @Says("link KIND a b")
    static void promise08_linkFromTheLeastToTheGreatest(Check check) {
        SnakeLadders x = whole(check, "board 10 6;link 0 1 0;link 5 9 10;", 3);
        int[][] due = {{0, 1, 0, 0}, {5, 9, 10, 0}};
        for (int k = 0; k < 2; k++) {
            for (int what = 0; what < 4; what++) {
                check.due("about(" + k + ", " + what + ")", x.about(k, what), due[k][what]);
            }
        }
        whole(check, "board 40 6;link 0 39 40;", 2);
        fault(check, "board 10 6;link |6 1 2;");
        fault(check, "board 10 6;link 0 |0 2;");
        fault(check, "board 10 6;link 0 |10 2;");
        fault(check, "board 40 6;link 0 |40 2;");
        fault(check, "board 10 6;link 0 1 |11;");
        fault(check, "board 40 6;link 0 1 |41;");
    }

    @Says("player KIND")
    static void promise08_playerFromTheLeastToTheGreatest(Check check) {
        check.due("kind", whole(check, B + "player 0;", 2).of(0, 0), 0);
        check.due("kind", whole(check, B + "player 5;", 2).of(0, 0), 5);
        fault(check, B + "player |6;");
        fault(check, B + "player |50;");
    }

    @Says("set i p (the SQUARE, 0 .. L)")
    static void promise08_setFromTheLeastToTheGreatest(Check check) {
        check.due("on 20", whole(check, ONE + "set 0 20;", 3).of(0, 1), 20);
        check.due("on 0, where it is", whole(check, ONE + "set 0 0;", 3).of(0, 1), 0);
        check.due("off HOME", whole(check, ONE + "set 0 20;set 0 20;set 0 3;", 5).of(0, 1), 3);
        fault(check, ONE + "set 0 |21;");
        fault(check, ONE + "set 0 |99;");
        SnakeLadders x = whole(check, ONE + "link 0 3 9;set 0 3;", 4);
        check.due("set where a link is: not led", x.of(0, 1), 3);
        check.due("set where a link is: used", x.about(0, 3), 0);
        check.due("set is no throw", x.of(0, 2), 0);
    }

    @Says("throw i and 1 to 9 numbers")
    static void promise08_throwsOneToNine(Check check) {
        check.due("one", whole(check, ONE + "throw 0 1;", 3).of(0, 2), 1);
        SnakeLadders x = whole(check, ONE + "throw 0 1 1 1 1 1 1 1 1 1;", 3);
        check.due("nine", x.of(0, 2), 9);
        check.due("nine: square", x.of(0, 1), 9);
        check.due("the greatest", whole(check, ONE + "throw 0 6;", 3).of(0, 1), 6);
        check.due("nine and nine more", whole(check, ONE + "throw 0 1 1 1 1 1 1 1 1 1;throw 0 1 1 1 1 1 1 1 1 1;", 4).of(0, 2), 18);
        fault(check, ONE + "throw 0|;");
        fault(check, ONE + "throw 0 |0;");
        fault(check, ONE + "throw 0 1 |0;");
    }

    @Says({"it leads on by the same throw", "USED once more"})
    static void promise08_throwsOfATextAreLedByLinksThatAreThere(Check check) {
        SnakeLadders x = whole(check, ONE + "throw 0 3;link 1 3 0;set 0 0;throw 0 3 3;", 6);
        check.due("square", x.of(0, 1), 3);
        check.due("throws", x.of(0, 2), 3);
        check.due("used", x.about(0, 3), 2);
    }

    @Says("TOKENS: words of letters a .. z, figures (1 or 2 are one number), ; ; blanks (32) between.")
    static void promise08_oneFigureOrTwo(Check check) {
        SnakeLadders x = whole(check, "board 20 06;link 05 03 00;player 01;set 00 09;throw 00 02 01;", 5);
        check.due("kind of the link", x.about(0, 0), 5);
        check.due("to", x.about(0, 2), 0);
        check.due("kind of the player", x.of(0, 0), 1);
        check.due("square", x.of(0, 1), 12);
        fault(check, "board |2 0 6;");
        fault(check, "board 20 |66;");
        fault(check, ONE + "throw 0 |11;");
    }

    @Says("blanks (32) between")
    static void promise08_blanksAnywhereBetween(Check check) {
        whole(check, "   board   20   6   ;   player   0   ;   ", 2);
        whole(check, B + " ", 1);
        whole(check, " " + B, 1);
        whole(check, ONE + "throw 0 1 ;", 3);
        fault(check, "|bo ard 20 6;");
        fault(check, B + "|play er 0;");
    }

    @Says("A BOARD that is read takes the place of all but IMAGES, THE TEXT, THE FRACTION, STATUS")
    static void promise08_takesThePlaceOfAll(Check check) {
        SnakeLadders x = Edges.crowded();
        check.due("read()", x.read(), 3);
        Edges.counts(check, x, 10, 2, 0, 1, 0, 3, 0, 0, 0, 0, 150);
        check.due("link(0, 1, 2), where one was", x.link(0, 1, 2), 0);
        check.due("its uses", x.about(0, 3), 0);
        check.due("player(0)", x.player(0), 1);
        check.due("his square", x.of(1, 1), 0);
    }

    @Says("(NOTES, MARKS none; nothing to undo)")
    static void promise08_noNotesNoMarksNothingToUndo(Check check) {
        SnakeLadders x = whole(check, ONE + "link 0 3 9;set 0 1;throw 0 2;", 5);
        check.due("notes", x.count(7), 0);
        check.due("marks", x.count(8), 0);
        check.due("to undo", x.count(9), 0);
        check.no("undo()", x, x::undo);
        check.due("is(0)", x.is(0), 63);
        check.due("forget(0)", x.forget(0), 0);
        check.due("forget(1)", x.forget(1), 0);
    }

    @Says("all but IMAGES, THE TEXT, THE FRACTION, STATUS")
    static void promise08_imagesTextFractionAndStatusStay(Check check) {
        SnakeLadders x = Edges.lively();
        SnakeLadders twin = Edges.lively();
        x.from(1);
        check.due("read()", x.read(), 3);
        check.due("part(0)", x.part(0), twin.part(0));
        check.due("part(1)", x.part(1), twin.part(1));
        check.due("status(1)", x.status(1), 1);
        check.due("count(10)", x.count(10), 30);
        long state = x.digest();
        x.rolls(0, 1);
        check.due("read() again", x.read(), 3);
        check.due("read() again, then digest()", x.digest(), state);
        check.due("from(0)", x.from(0), 1);
        twin.from(0);
        check.due("from(0), then digest()", x.digest(), twin.digest());
    }

    @Says("-10 less the FAULT: all stays.")
    static void promise08_aFaultLeavesAllAndIsNoRefusal(Check check) {
        String late = ONE + "link 0 3 9;throw 0 3;x";
        Edges.asked(check, () -> Edges.typed(Edges.crowded(), late), "read() of '" + late + "'", SnakeLadders::read, -10 - late.indexOf('x'));
        fault(check, late, late.indexOf('x'));
        SnakeLadders x = Edges.typed(new SnakeLadders(), late);
        x.read();
        Edges.typed(x, B);
        check.due("a draft leaves nothing behind", x.read(), 1);
        check.due("players", x.count(3), 0);
        check.due("links", x.count(2), 0);
    }

    // ---- promise 8: the FAULT, case by case

    @Says("the TEXT's length, if it ends too early (an empty one, too)")
    static void promise08_faultOfATextThatEndsTooEarly(Check check) {
        fault(check, "|");
        fault(check, " |");
        fault(check, " ".repeat(150) + "|");
        fault(check, "board|");
        fault(check, "board |");
        fault(check, "board 20|");
        fault(check, "board 20 6|");
        fault(check, "board 20 6  |");
        for (String item : new String[] {"link", "link 0", "link 0 1", "link 0 1 2", "player", "player 0", "set",
            "set 0", "set 0 1", "throw", "throw 0", "throw 0 1", "throw 0 1 1 1 1 1 1 1 1 1"}) {
            fault(check, ONE + item + "|");
            fault(check, ONE + item + " |");
        }
    }

    /** Each beginning of a text ends too early, or in a word or a number that can not stand there, or is whole. */
    @Says("FAULT: the place of the first byte of the first TOKEN that can not stand there")
    static void promise08_faultOfEachBeginningOfAText(Check check) {
        String text = "board 20 6;link 0 3 11;player 0;set 0 4;throw 0 1 2;";
        for (int n = 0; n < text.length(); n++) {
            String begun = text.substring(0, n);
            int word = Math.max(begun.lastIndexOf(' '), begun.lastIndexOf(';')) + 1;
            boolean inAWord = n > word && Character.isLetter(text.charAt(n)) && Character.isLetter(text.charAt(n - 1));
            if (begun.endsWith(";")) {
                whole(check, begun, (int) begun.chars().filter(c -> c == ';').count());
            } else if (inAWord || begun.equals("board 2")) {
                fault(check, begun, word);
            } else {
                fault(check, begun, n);
            }
        }
        whole(check, text, 5);
    }

    @Says("a word that is none")
    static void promise08_faultOfAWordThatIsNone(Check check) {
        for (String word : new String[] {"boar", "boards", "oard", "coard", "boarb", "bboard", "a", "z", "boardlink"}) {
            fault(check, "|" + word + " 20 6;");
        }
        for (String word : new String[] {"lin", "links", "ling", "playe", "players", "flayer", "se", "sets", "throws", "throwthrow",
            "thro", "image", "die", "linkplayer"}) {
            fault(check, ONE + "|" + word + " 0 1 2;");
            fault(check, ONE + "  |" + word);
        }
    }

    @Says("board again")
    static void promise08_faultOfBoardAgain(Check check) {
        fault(check, B + "|board 20 6;");
        fault(check, B + "|board");
        fault(check, ONE + " |board 20 6;");
        fault(check, "board |board 20 6;");
    }

    @Says("anything ahead of it")
    static void promise08_faultOfAnythingAheadOfBoard(Check check) {
        for (String first : new String[] {"link 0 1 2;", "player 0;", "set 0 1;", "throw 0 1;", "7", "20 6;", "123", ";", "?", "x"}) {
            fault(check, "|" + first + B);
            fault(check, "  |" + first + B);
        }
    }

    @Says("a 7th link, a 5th player at its word")
    static void promise08_faultOfASeventhLink(Check check) {
        check.due("six links", whole(check, B + SIX_LINKS, 7).count(2), 6);
        fault(check, B + SIX_LINKS + "|link 0 7 8;");
        fault(check, B + SIX_LINKS + "|link");
        fault(check, B + SIX_LINKS + "player 0; |link 9 9 9;");
    }

    @Says("a 7th link, a 5th player at its word")
    static void promise08_faultOfAFifthPlayer(Check check) {
        check.due("four players", whole(check, B + FOUR_PLAYERS, 5).count(3), 4);
        fault(check, B + FOUR_PLAYERS + "|player 0;");
        fault(check, B + FOUR_PLAYERS + "|player");
        fault(check, B + FOUR_PLAYERS + "link 0 1 2; |player 9;");
    }

    @Says("a 10th number")
    static void promise08_faultOfATenthNumber(Check check) {
        fault(check, ONE + "throw 0 1 1 1 1 1 1 1 1 1 |1;");
        fault(check, ONE + "throw 0 1 1 1 1 1 1 1 1 1 |1");
        fault(check, ONE + "throw 0 1 1 1 1 1 1 1 1 1 |111;");
        fault(check, ONE + "throw 0 1 1 1 1 1 1 1 1 1 |x;");
    }

    @Says("; where there is none")
    static void promise08_faultOfASemicolonWhereThereIsNone(Check check) {
        for (String begun : new String[] {"", "board", "board 20"}) {
            fault(check, begun + "|; 6;");
        }
        for (String begun : new String[] {"", "link", "link 0", "link 0 1", "player", "set", "set 0", "throw", "throw 0"}) {
            fault(check, ONE + begun + "|;");
            fault(check, ONE + begun + " |;");
        }
    }

    @Says("each ended by ;")
    static void promise08_faultOfAnItemThatGoesOn(Check check) {
        for (String more : new String[] {"|1;", "|0", "|link 0 1 2;", "|123;", "|?"}) {
            fault(check, "board 20 6 " + more);
            fault(check, B + "link 0 1 2 " + more);
            fault(check, B + "player 0 " + more);
            fault(check, ONE + "set 0 1 " + more);
        }
        fault(check, ONE + "throw 0 1 |throw 0 1;");
        fault(check, "board 20 6|.");
    }

    @Says("a run of three figures or more (at its first one)")
    static void promise08_faultOfThreeFigures(Check check) {
        for (String run : new String[] {"020", "000", "123", "0020", "999999999999"}) {
            fault(check, "board |" + run + " 6;");
            fault(check, "board 20 |" + run + ";");
            fault(check, B + "link |" + run + " 1 2;");
            fault(check, B + "link 0 |" + run + " 2;");
            fault(check, B + "link 0 1 |" + run + ";");
            fault(check, B + "player |" + run + ";");
            fault(check, ONE + "set |" + run + " 1;");
            fault(check, ONE + "set 0 |" + run + ";");
            fault(check, ONE + "throw |" + run + " 1;");
            fault(check, ONE + "throw 0 |" + run + ";");
            fault(check, ONE + "throw 0 1 |" + run + ";");
        }
        for (String run : new String[] {"000", "001", "003", "006", "010"}) {
            fault(check, ONE + "set 0 |" + run + ";");
        }
    }

    @Says("a number not as told, also a PLAYER that is not there yet")
    static void promise08_faultOfAPlayerThatIsNotThereYet(Check check) {
        for (String word : new String[] {"set", "throw"}) {
            fault(check, B + word + " |0 1;player 0;");
            fault(check, ONE + word + " |1 1;player 0;");
            fault(check, B + FOUR_PLAYERS + word + " |4 1;");
            fault(check, B + FOUR_PLAYERS + word + " |99 1;");
            whole(check, B + FOUR_PLAYERS + word + " 3 1;", 6);
        }
    }

    @Says("a SQUARE FROM which a LINK is")
    static void promise08_faultOfASquareFromWhichALinkIs(Check check) {
        fault(check, B + "link 0 1 2;link 0 |1 3;");
        fault(check, B + "link 0 1 2;link 0 |1 1;");
        fault(check, B + "link 0 1 2;link 0 |01 3;");
        fault(check, B + "link 0 19 2;link 0 5 19;link 0 |19 3;");
        whole(check, B + "link 0 1 2;link 0 2 1;link 0 3 1;", 4);
    }

    @Says("b being a")
    static void promise08_faultOfALinkToWhereItIsFrom(Check check) {
        fault(check, B + "link 0 1 |1;");
        fault(check, B + "link 0 1 |01;");
        fault(check, B + "link 5 19 |19;");
    }

    @Says("a throw beyond D")
    static void promise08_faultOfAThrowBeyondTheDie(Check check) {
        whole(check, "board 20 2;player 0;throw 0 1 2;", 3);
        fault(check, "board 20 2;player 0;throw 0 |3;");
        fault(check, "board 20 2;player 0;throw 0 1 |3;");
        fault(check, ONE + "throw 0 1 1 1 1 1 1 1 1 |7;");
        fault(check, ONE + "throw 0 |99;");
    }

    @Says("or of one who is HOME by then (at that number)")
    static void promise08_faultOfAThrowOfOneWhoIsHome(Check check) {
        fault(check, ONE + "set 0 20;throw 0 |1;");
        fault(check, ONE + "set 0 18;throw 0 1 1 |1;");
        fault(check, ONE + "set 0 19;throw 0 1;throw 0 |1;");
        fault(check, ONE + "link 0 3 20;throw 0 1 2 |3;");
        fault(check, ONE + "set 0 20;throw 0|;");
        fault(check, ONE + "set 0 20;throw 0|");
        whole(check, ONE + "set 0 18;throw 0 1 1;", 4);
        whole(check, ONE + "player 0;set 0 20;throw 1 1;", 5);
        whole(check, ONE + "set 0 20;set 0 19;throw 0 1;", 5);
    }

    @Says("a byte that begins none, too")
    static void promise08_faultOfAByteThatBeginsNone(Check check) {
        for (int c = 0; c < 128; c++) {
            boolean begins = c == ' ' || c == ';' || c >= '0' && c <= '9' || c >= 'a' && c <= 'z';
            if (!begins) {
                fault(check, (char) c + B, 0);
                fault(check, "board" + (char) c + "20 6;", 5);
                fault(check, "board 20 6" + (char) c, 10);
                fault(check, B + (char) c, 11);
            }
        }
    }

    @Says("words of letters a .. z, figures")
    static void promise08_faultOfAWordForANumberOrANumberForAWord(Check check) {
        fault(check, "board |x 6;");
        fault(check, "board 20 |link;");
        fault(check, B + "|7;");
        fault(check, B + "link 1 |z 2;");
        fault(check, B + "link 1 2 |z;");
        fault(check, B + "player |a;");
        fault(check, ONE + "set |a 1;");
        fault(check, ONE + "set 0 |a;");
        fault(check, ONE + "throw |a 1;");
        fault(check, ONE + "throw 0 |a;");
        fault(check, ONE + "throw 0 1 |a;");
        for (String first : new String[] {"0", "1", "9"}) {
            fault(check, ONE + "set 0 " + first + "|a;");
        }
    }
}
