/** Each promise of the document: ordinary inputs, the edges it names, and wrong inputs. */
public final class PromiseTest {
    private static final Check check = new Check("PromiseTest");
    private static final int NONE = SnakeLadders.NONE;
    private static final int[] WILD = {Integer.MIN_VALUE, -1000, Integer.MAX_VALUE, 1000};

    public static void main(String[] args) {
        newObject();
        board();
        die();
        link();
        player();
        typeAndClear();
        readWhole();
        readFaults();
        rolls();
        playerKinds();
        linkKinds();
        sets();
        undo();
        ofAndAbout();
        goes();
        few();
        home();
        mean();
        ahead();
        rather();
        without();
        span();
        noteAndIs();
        look();
        markAndKinds();
        ask();
        forget();
        choice();
        evenings();
        part();
        images();
        status();
        count();
        digest();
        check.end();
    }

    private static SnakeLadders on(int l, int d, int... kinds) {
        SnakeLadders x = new SnakeLadders();
        x.board(l, d);
        for (int kind : kinds) {
            x.player(kind);
        }
        return x;
    }

    private static void type(SnakeLadders x, String text) {
        x.clear();
        for (int n = 0; n < text.length(); n++) {
            x.type(text.charAt(n));
        }
    }

    // ---- promise 1

    private static void newObject() {
        SnakeLadders x = new SnakeLadders();
        int[] first = {20, 6, 0, 0, 0, 0, 0, 0, 0, 0, 0};
        for (int what = 0; what < first.length; what++) {
            check.due("new: count(" + what + ")", x.count(what), first[what]);
        }
        check.due("new: part(0)", x.part(0), 0);
        check.due("new: part(1)", x.part(1), 1);
        for (int what = 0; what < 3; what++) {
            check.due("new: status(" + what + ")", x.status(what), 0);
        }
        check.no("new: undo()", x, x::undo);
        check.no("new: from(0)", x, () -> x.from(0));
        check.bad("new: of(0, 0)", x, () -> x.of(0, 0));
        check.bad("new: about(0, 0)", x, () -> x.about(0, 0));
    }

    // ---- promise 2

    private static void board() {
        SnakeLadders x = new SnakeLadders();
        check.due("board(10, 2)", x.board(10, 2), 0);
        check.due("board: L", x.count(0), 10);
        check.due("board: D", x.count(1), 2);
        x.player(0);
        x.player(1);
        x.link(0, 3, 9);
        x.rolls(0, 2);
        x.note(0, 0, 1, 9);
        x.mark(1, 0, 1, 1);
        x.type('a');
        x.mean(0, 1);
        x.image(1);
        x.rolls(0, 0);
        check.due("board(40, 6)", x.board(40, 6), 2);
        int[] then = {40, 6, 0, 0, 0, 0, 0, 0, 0, 0, 1};
        for (int what = 0; what < then.length; what++) {
            check.due("board: count(" + what + ")", x.count(what), then[what]);
        }
        check.due("board: the fraction stays", x.part(0) * 1000 + x.part(1), 13002);
        check.due("board: status stays", x.status(0), 1);
        check.due("board: images stay", x.from(1), 1);
        check.due("board: links of the image", x.count(2), 1);
        for (int l : new int[] {9, 41, 0, -20, Integer.MAX_VALUE}) {
            check.bad("board(" + l + ", 6)", x, () -> x.board(l, 6));
        }
        for (int d : new int[] {1, 7, 0, -6, Integer.MIN_VALUE}) {
            check.bad("board(20, " + d + ")", x, () -> x.board(20, d));
        }
    }

    // ---- promise 3

    private static void die() {
        SnakeLadders x = on(20, 6, 0);
        x.rolls(0, 6);
        check.due("die(2)", x.die(2), 6);
        check.due("die: D", x.count(1), 2);
        check.due("die: nothing to undo", x.count(9), 0);
        check.due("die: the counter stays", x.of(0, 1), 6);
        check.bad("die: rolls(0, 3)", x, () -> x.rolls(0, 3));
        x.rolls(0, 2);
        check.due("die(2) again", x.die(2), 2);
        check.due("die told again: nothing to undo", x.count(9), 0);
        check.due("die(6)", x.die(6), 2);
        x.rolls(0, 1);
        check.bad("die(1)", x, () -> x.die(1));
        check.bad("die(7)", x, () -> x.die(7));
        check.due("die refused: still to undo", x.count(9), 1);
    }

    // ---- promise 4

    private static void link() {
        SnakeLadders x = on(12, 6, 0);
        x.rolls(0, 1);
        check.bad("link(6, 1, 2)", x, () -> x.link(6, 1, 2));
        check.bad("link(-1, 1, 2)", x, () -> x.link(-1, 1, 2));
        check.bad("link(0, 0, 2)", x, () -> x.link(0, 0, 2));
        check.bad("link(0, 12, 2)", x, () -> x.link(0, 12, 2));
        check.bad("link(0, 3, -1)", x, () -> x.link(0, 3, -1));
        check.bad("link(0, 3, 13)", x, () -> x.link(0, 3, 13));
        check.bad("link(0, 3, 3)", x, () -> x.link(0, 3, 3));
        check.due("link refused: still to undo", x.count(9), 1);
        check.due("link(0, 1, 12)", x.link(0, 1, 12), 0);
        check.due("link: nothing to undo", x.count(9), 0);
        check.due("link(5, 11, 0)", x.link(5, 11, 0), 1);
        check.no("link from there", x, () -> x.link(0, 11, 4));
        check.bad("link from there, b a", x, () -> x.link(0, 11, 11));
        for (int k = 2; k < 6; k++) {
            check.due("link " + k, x.link(k, k, k + 1), k);
        }
        check.full("a 7th link", x, () -> x.link(0, 7, 8));
        check.no("a 7th link from there", x, () -> x.link(0, 11, 8));
        check.bad("a 7th link, bad", x, () -> x.link(6, 11, 8));
        check.due("links", x.count(2), 6);
        check.due("kind of 4", x.about(4, 0), 4);
        check.due("from of 4", x.about(4, 1), 4);
        check.due("to of 4", x.about(4, 2), 5);
        check.due("used of 4", x.about(4, 3), 0);
    }

    // ---- promise 5

    private static void player() {
        SnakeLadders x = on(12, 6);
        check.bad("player(6)", x, () -> x.player(6));
        check.bad("player(-1)", x, () -> x.player(-1));
        check.due("player(5)", x.player(5), 0);
        x.rolls(0, 6);
        check.bad("player(6) behind a throw", x, () -> x.player(6));
        check.due("player refused: still to undo", x.count(9), 1);
        check.due("player(0)", x.player(0), 1);
        check.due("player: nothing to undo", x.count(9), 0);
        check.due("player(3)", x.player(3), 2);
        check.due("player(4)", x.player(4), 3);
        check.full("a 5th player", x, () -> x.player(0));
        check.bad("a 5th player, bad", x, () -> x.player(9));
        check.due("player 3: kind", x.of(3, 0), 4);
        check.due("player 3: square", x.of(3, 1), 0);
        check.due("player 3: throws", x.of(3, 2), 0);
    }

    // ---- promises 6 and 7

    private static void typeAndClear() {
        SnakeLadders x = new SnakeLadders();
        check.due("clear() of none", x.clear(), 0);
        check.bad("type(-1)", x, () -> x.type(-1));
        check.bad("type(128)", x, () -> x.type(128));
        check.due("type(0)", x.type(0), 1);
        check.due("type(127)", x.type(127), 2);
        check.due("clear()", x.clear(), 2);
        check.due("clear: bytes", x.count(10), 0);
        for (int n = 1; n <= 150; n++) {
            check.due("type, the " + n + "th", x.type(' '), n);
        }
        check.full("type, the 151st", x, () -> x.type(' '));
        check.bad("type, the 151st, bad", x, () -> x.type(128));
        check.asked("read of 150 blanks", x, x::read, -160);
        check.due("clear() of all", x.clear(), 150);
        check.asked("read of none", x, x::read, -10);
    }

    // ---- promise 8

    private static void readWhole() {
        SnakeLadders x = on(30, 2, 0, 0, 0);
        x.link(0, 5, 6);
        x.rolls(0, 2);
        x.note(0, 0, 1, 1);
        x.mark(0, 0, 1, 1);
        x.mean(0, 1);
        x.image(0);
        x.board(0, 0);
        String text = " board 12 5;link 1 3 08;player 0;player 5;throw 0 3 4;set 1 12 ; set 1 12;throw 0 1 ;  ";
        type(x, text);
        // 0 to 3, led to 8; by 4 to 12: HOME behind 2 throws, so that a third can not stand there
        check.asked("read() of a throw behind HOME", x, x::read, -10 - text.indexOf("1 ;  "));
        text = text.replace("throw 0 1 ;", "");
        type(x, text);
        check.due("read()", x.read(), 7);
        int[] then = {12, 5, 1, 2, 2, 2, 1, 0, 0, 0, text.length()};
        for (int what = 0; what < then.length; what++) {
            check.due("read: count(" + what + ")", x.count(what), then[what]);
        }
        check.due("read: fraction stays", x.part(0) * 1000 + x.part(1), 7002);
        check.due("read: status stays", x.status(0), 1);
        check.no("read: undo()", x, x::undo);
        check.due("read: images stay", x.from(0), 1);
        check.due("read: L of the image", x.count(0), 30);
        check.due("read: notes of the image", x.count(7), 1);
        check.due("read: to undo of the image", x.count(9), 1);
    }

    private static void item(String text, int items) {
        SnakeLadders x = on(13, 3, 1);
        type(x, text);
        check.due("read() of '" + text + "'", x.read(), items);
    }

    private static void fault(String text, int place) {
        SnakeLadders x = on(13, 3, 1);
        x.link(0, 2, 5);
        x.rolls(0, 2);
        x.note(0, 1, 2, 3);
        x.mark(0, 1, 2, 3);
        type(x, text);
        check.asked("read() of '" + text + "'", x, x::read, -10 - place);
    }

    private static void readFaults() {
        String b = "board 20 6;";
        item("board 10 2;", 1);
        item("board 40 6;", 1);
        item("  board  40  06 ;  ", 1);
        item("board40 6;player0;", 2);
        item(b + "link 0 1 0;link 5 19 20;", 3);
        item(b + "player 0;player 0;player 0;player 0;", 5);
        item(b + "player 0;throw 0 1 1 1 1 1 1 1 1 1;", 3);
        item(b + "player 0;set 0 20;set 0 20;set 0 0;throw 0 6;", 6);
        item(b + "link 0 1 2;link 0 2 3;link 0 3 4;link 0 4 5;link 0 5 6;link 0 6 7;", 7);
        fault("", 0);
        fault(" ", 1);
        fault("board", 5);
        fault("boar", 0);
        fault("boards 10 6;", 0);
        fault("coard 10 6;", 0);
        fault("boarb 10 6;", 0);
        fault("b 10 6;", 0);
        fault("Board 10 6;", 0);
        fault("bOard 10 6;", 0);
        fault(" player 0;", 1);
        fault(";", 0);
        fault("10 6;", 0);
        fault("board;", 5);
        fault("board board", 6);
        fault("board 9 6;", 6);
        fault("board 41 6;", 6);
        fault("board 020 6;", 6);
        fault("board 20 1;", 9);
        fault("board 20 7;", 9);
        fault("board 20;", 8);
        fault("board 20 6", 10);
        fault("board 20 6 ", 11);
        fault("board 20 6 6;", 11);
        fault("board 20 6 link", 11);
        fault("board -20 6;", 6);
        fault("board\t20 6;", 5);
        fault(b + ";", 11);
        fault(b + "board 20 6;", 11);
        fault(b + "  7;", 13);
        fault(b + "thro", 11);
        fault(b + "throw", 16);
        fault(b + "?", 11);
        readLinkFaults(b);
        readPlayerFaults(b);
    }

    private static void readLinkFaults(String b) {
        fault(b + "link 6 1 2;", 16);
        fault(b + "link 0 0 2;", 18);
        fault(b + "link 0 20 2;", 18);
        fault(b + "link 0 1 21;", 20);
        fault(b + "link 0 1 1;", 20);
        fault(b + "link 0 1 001;", 20);
        fault(b + "link 0 1;", 19);
        fault(b + "link 0 1 2 3;", 22);
        fault(b + "link 0 1 2;link 0 1 3;", 29);
        fault(b + "link 0 1 2", 21);
        String six = "link 0 1 2;link 0 2 3;link 0 3 4;link 0 4 5;link 0 5 6;link 0 6 7;";
        fault(b + six + "link", 77);
        fault(b + six + "links 0", 77);
    }

    private static void readPlayerFaults(String b) {
        fault(b + "player 6;", 18);
        fault(b + "player ;", 18);
        fault(b + "player 0;player 0;player 0;player 0;player 0;", 47);
        fault(b + "set 0 1;", 15);
        fault(b + "player 0;set 1 1;", 24);
        fault(b + "player 0;set 0 21;", 26);
        fault(b + "player 0;set 0;", 25);
        fault(b + "throw 0 1;", 17);
        fault(b + "player 0;throw 1 1;", 26);
        fault(b + "player 0;throw 0;", 27);
        fault(b + "player 0;throw 0 0;", 28);
        fault(b + "player 0;throw 0 7;", 28);
        fault(b + "player 0;throw 0 1 1 1 1 1 1 1 1 1 1;", 46);
        fault(b + "player 0;throw 0 1 1 1 1 1 1 1 1 1", 45);
        fault(b + "player 0;set 0 20;throw 0 1;", 37);
        fault(b + "player 0;set 0 18;throw 0 1 1 1 1;", 41);
        fault(b + "player 0;throw 0 1 x", 30);
    }

    // ---- promise 9

    private static void rolls() {
        SnakeLadders x = on(20, 6, 0, 0);
        x.link(0, 3, 8);
        x.link(0, 8, 1);
        check.due("rolls(0, 3)", x.rolls(0, 3), 8);
        check.due("rolls: once only", x.of(0, 1), 8);
        check.due("rolls: used", x.about(0, 3), 1);
        check.due("rolls: used of the next", x.about(1, 3), 0);
        check.due("rolls: throws", x.of(0, 2), 1);
        check.due("rolls: throws of another", x.of(1, 2), 0);
        check.due("rolls(1, 6)", x.rolls(1, 6), 6);
        check.due("rolls(1, 2)", x.rolls(1, 2), 1);
        x.sets(0, 20);
        check.no("rolls, HOME", x, () -> x.rolls(0, 1));
        check.bad("rolls, HOME, bad", x, () -> x.rolls(0, 7));
        check.bad("rolls(1, 0)", x, () -> x.rolls(1, 0));
        check.bad("rolls(1, 7)", x, () -> x.rolls(1, 7));
        check.bad("rolls(2, 1)", x, () -> x.rolls(2, 1));
        check.bad("rolls(-1, 1)", x, () -> x.rolls(-1, 1));
        staysOnALink();
        usedNinetyNine();
    }

    private static void staysOnALink() {
        SnakeLadders x = on(10, 6, 0, 1);
        x.link(0, 9, 2);
        x.link(0, 8, 3);
        x.sets(0, 9);
        check.due("one who stays is not led", x.rolls(0, 2), 9);
        check.due("one who stays uses none", x.about(0, 3), 0);
        check.due("one who stays throws", x.of(0, 2), 1);
        x.sets(1, 9);
        check.due("one who bounces back to where he was", x.rolls(1, 2), 9);
        check.due("one who bounces back uses none", x.about(0, 3), 0);
        check.due("one who bounces to another", x.rolls(1, 3), 3);
        check.due("one who bounces to another uses it", x.about(1, 3), 1);
    }

    private static void usedNinetyNine() {
        SnakeLadders x = on(10, 2, 0);
        x.link(1, 1, 0);
        for (int n = 1; n <= 99; n++) {
            x.sets(0, 0);
            x.rolls(0, 1);
            check.due("used, " + n + " times", x.about(0, 3), n);
        }
        x.sets(0, 0);
        check.due("asleep, used 99 times", x.rolls(0, 1), 1);
        check.due("used 99 at most", x.about(0, 3), 99);
        x.undo();
        check.due("used 99, undone", x.about(0, 3), 99);
        // by 1 to 1, asleep there; by 2 to 2: 3 by 2
        x.mean(0, 1);
        check.due("used 99: mean", x.part(0) * 10 + x.part(1), 32);
        check.due("used 99, asked", x.about(0, 3), 99);
        x.undo();
        check.due("used 98, undone", x.about(0, 3), 98);
        check.due("throws, undone", x.of(0, 2), 98);
    }

    private static void goesFrom(int kind, int p, int... due) {
        SnakeLadders x = on(20, 6, kind);
        x.sets(0, p);
        for (int r = 1; r <= 6; r++) {
            check.due("kind " + kind + " from " + p + " by " + r, x.goes(0, r), due[r - 1]);
        }
    }

    private static void playerKinds() {
        goesFrom(0, 0, 1, 2, 3, 4, 5, 6);
        goesFrom(0, 17, 18, 19, 20, 17, 17, 17);
        goesFrom(1, 0, 1, 2, 3, 4, 5, 6);
        goesFrom(1, 17, 18, 19, 20, 19, 18, 17);
        goesFrom(1, 19, 20, 19, 18, 17, 16, 15);
        goesFrom(2, 0, 1, 2, 3, 4, 5, 3);
        goesFrom(2, 17, 18, 19, 20, 17, 17, 20);
        goesFrom(2, 18, 19, 20, 18, 18, 18, 18);
        goesFrom(3, 0, 2, 2, 3, 4, 5, 6);
        goesFrom(3, 19, 19, 19, 19, 19, 19, 19);
        goesFrom(3, 18, 20, 20, 18, 18, 18, 18);
        goesFrom(4, 0, 2, 2, 3, 4, 5, 6);
        goesFrom(4, 17, 19, 19, 20, 20, 20, 20);
        goesFrom(4, 19, 20, 20, 20, 20, 20, 20);
        goesFrom(5, 0, 1, 1, 2, 2, 3, 3);
        goesFrom(5, 18, 19, 19, 20, 20, 18, 18);
    }

    private static void ledBy(int kind, int a, int b, int u, int... due) {
        for (int r = 1; r <= 6; r++) {
            SnakeLadders x = on(20, 6, 0);
            x.link(kind, a, b);
            for (int n = 0; n < u; n++) {
                x.sets(0, a - 1);
                x.rolls(0, 1);
            }
            if (x.of(0, 1) != a - r) {
                x.sets(0, a - r);
            }
            check.due("link " + kind + " from " + a + " to " + b + " used " + u + " by " + r, x.rolls(0, r), due[r - 1]);
            check.due("its uses", x.about(0, 3), u + 1);
        }
    }

    private static void linkKinds() {
        ledBy(0, 10, 3, 0, 3, 3, 3, 3, 3, 3);
        ledBy(0, 10, 3, 3, 3, 3, 3, 3, 3, 3);
        ledBy(1, 10, 3, 0, 3, 3, 3, 3, 3, 3);
        ledBy(1, 10, 3, 1, 10, 10, 10, 10, 10, 10);
        ledBy(1, 10, 3, 2, 3, 3, 3, 3, 3, 3);
        ledBy(2, 10, 3, 0, 2, 2, 2, 2, 2, 2);
        ledBy(2, 10, 0, 0, 0, 0, 0, 0, 0, 0);
        ledBy(2, 10, 20, 1, 19, 19, 19, 19, 19, 19);
        ledBy(3, 10, 15, 0, 15, 15, 15, 15, 15, 15);
        ledBy(3, 10, 15, 1, 10, 10, 10, 10, 10, 10);
        ledBy(3, 10, 15, 2, 10, 10, 10, 10, 10, 10);
        ledBy(4, 10, 3, 0, 4, 5, 6, 7, 8, 9);
        ledBy(4, 10, 17, 0, 18, 19, 20, 20, 20, 20);
        ledBy(5, 10, 3, 0, 2, 2, 1, 1, 1, 0);
        ledBy(5, 10, 1, 0, 0, 0, 0, 0, 0, 0);
        ledBy(5, 10, 20, 1, 19, 19, 18, 18, 18, 17);
        SnakeLadders x = on(20, 6, 2, 5);
        x.link(4, 3, 10);
        check.due("a generous one counts the throw itself: timid", x.goes(0, 6), 16);
        check.due("a generous one counts the throw itself: limper", x.goes(1, 5), 15);
    }

    // ---- promise 10

    private static void sets() {
        SnakeLadders x = on(20, 6, 0);
        x.link(0, 4, 9);
        check.no("sets(0, 0)", x, () -> x.sets(0, 0));
        check.due("sets(0, 4)", x.sets(0, 4), 0);
        check.due("sets: not led", x.of(0, 1), 4);
        check.due("sets: used", x.about(0, 3), 0);
        check.due("sets: throws", x.of(0, 2), 0);
        check.due("sets(0, 20)", x.sets(0, 20), 4);
        check.no("sets(0, 20) again", x, () -> x.sets(0, 20));
        check.due("sets(0, 1), off HOME", x.sets(0, 1), 20);
        check.due("sets: to undo", x.count(9), 3);
        check.bad("sets(0, 21)", x, () -> x.sets(0, 21));
        check.bad("sets(0, -1)", x, () -> x.sets(0, -1));
        check.bad("sets(1, 1)", x, () -> x.sets(1, 1));
        check.bad("sets(-1, 1)", x, () -> x.sets(-1, 1));
    }

    // ---- promise 11

    private static void undo() {
        SnakeLadders x = on(20, 6, 0, 0);
        x.link(1, 5, 20);
        x.sets(1, 20);
        x.rolls(0, 5);
        check.due("both HOME", x.count(4), 2);
        check.due("undo()", x.undo(), 1);
        check.due("undo: square", x.of(0, 1), 0);
        check.due("undo: throws", x.of(0, 2), 0);
        check.due("undo: used", x.about(0, 3), 0);
        check.due("undo() again", x.undo(), 0);
        check.no("undo() of none", x, x::undo);
        // the fifth throw leads HOME; those behind it are refused
        for (int n = 1; n <= 10; n++) {
            x.rolls(1, 1);
            check.due("to undo", x.count(9), Math.min(5, n));
        }
        undoEight();
    }

    private static void undoEight() {
        SnakeLadders x = on(20, 6, 0);
        for (int n = 1; n <= 11; n++) {
            x.rolls(0, 1);
        }
        for (int n = 1; n <= 8; n++) {
            check.due("undo, the " + n + "th", x.undo(), 0);
            check.due("undo: square", x.of(0, 1), 11 - n);
            check.due("undo: throws", x.of(0, 2), 11 - n);
            check.due("undo: left", x.count(9), 8 - n);
        }
        check.no("undo, the 9th", x, x::undo);
        x.rolls(0, 2);
        x.note(0, 0, 1, 1);
        x.mark(0, 0, 1, 1);
        x.clear();
        check.due("undo behind a mark", x.undo(), 0);
        check.due("undo behind a mark: the mark stays", x.count(8), 1);
    }

    // ---- promises 12 and 13

    private static void ofAndAbout() {
        SnakeLadders x = on(20, 6, 3, 5);
        x.link(4, 2, 7);
        x.rolls(1, 4);
        check.due("of(1, 0)", x.of(1, 0), 5);
        check.due("of(1, 1)", x.of(1, 1), 11);
        check.due("of(1, 2)", x.of(1, 2), 1);
        check.due("of(0, 0)", x.of(0, 0), 3);
        check.due("about(0, 0)", x.about(0, 0), 4);
        check.due("about(0, 1)", x.about(0, 1), 2);
        check.due("about(0, 2)", x.about(0, 2), 7);
        check.due("about(0, 3)", x.about(0, 3), 1);
        check.bad("of(2, 0)", x, () -> x.of(2, 0));
        check.bad("of(-1, 0)", x, () -> x.of(-1, 0));
        check.bad("of(0, 3)", x, () -> x.of(0, 3));
        check.bad("of(0, -1)", x, () -> x.of(0, -1));
        check.bad("about(1, 0)", x, () -> x.about(1, 0));
        check.bad("about(-1, 0)", x, () -> x.about(-1, 0));
        check.bad("about(0, 4)", x, () -> x.about(0, 4));
        check.bad("about(0, -1)", x, () -> x.about(0, -1));
    }

    // ---- promise 14

    private static void goes() {
        SnakeLadders x = on(20, 5, 0, 0);
        x.link(3, 4, 13);
        check.asked("goes(0, 4)", x, () -> x.goes(0, 4), 13);
        check.asked("goes(0, 4) again", x, () -> x.goes(0, 4), 13);
        x.rolls(1, 4);
        check.asked("goes(0, 4), broken", x, () -> x.goes(0, 4), 4);
        x.sets(0, 20);
        check.no("goes, HOME", x, () -> x.goes(0, 1));
        check.bad("goes, HOME, bad", x, () -> x.goes(0, 6));
        check.bad("goes(1, 0)", x, () -> x.goes(1, 0));
        check.bad("goes(1, 6)", x, () -> x.goes(1, 6));
        check.bad("goes(2, 1)", x, () -> x.goes(2, 1));
        check.bad("goes(-1, 1)", x, () -> x.goes(-1, 1));
    }

    // ---- promise 15

    private static void few() {
        SnakeLadders x = on(20, 6, 0);
        check.asked("few(0, NONE)", x, () -> x.few(0, NONE), 4);
        int[] row = {2, 6, 6, 6};
        for (int k = 0; k < 4; k++) {
            int place = k;
            check.asked("few(0, " + k + ")", x, () -> x.few(0, place), row[k]);
        }
        check.asked("few(0, 4)", x, () -> x.few(0, 4), -5);
        check.asked("few(0, MAX)", x, () -> x.few(0, Integer.MAX_VALUE), -5);
        check.badByTen("few(0, -2)", x, () -> x.few(0, -2));
        check.badByTen("few(1, NONE)", x, () -> x.few(1, NONE));
        check.badByTen("few(-1, 0)", x, () -> x.few(-1, 0));
        x.sets(0, 19);
        check.asked("few, one throw", x, () -> x.few(0, NONE), 1);
        check.asked("few, one throw of 1", x, () -> x.few(0, 0), 1);
        x.sets(0, 20);
        check.asked("few, HOME", x, () -> x.few(0, NONE), 0);
        check.asked("few, HOME, the 0th", x, () -> x.few(0, 0), -5);
        fewByFive();
        fewByLinks();
    }

    private static void fewByFive() {
        SnakeLadders x = on(30, 6, 0);
        check.asked("five sixes", x, () -> x.few(0, NONE), 5);
        check.asked("the last six", x, () -> x.few(0, 4), 6);
        SnakeLadders y = on(31, 6, 0);
        check.asked("none", y, () -> y.few(0, NONE), -6);
        check.asked("none, the 0th", y, () -> y.few(0, 0), -6);
        check.asked("none, the 9th", y, () -> y.few(0, 9), -6);
        check.badByTen("none, bad k", y, () -> y.few(0, -2));
    }

    private static void fewByLinks() {
        // asleep at the first time, so it is the second time that leads HOME: back by 6 to 0 between
        SnakeLadders x = on(40, 6, 0, 0);
        x.link(1, 3, 40);
        x.link(0, 6, 0);
        x.rolls(1, 3);
        check.asked("asleep, then awake", x, () -> x.few(0, NONE), 3);
        int[] row = {3, 3, 3};
        for (int k = 0; k < 3; k++) {
            int place = k;
            check.asked("asleep, then awake: " + k, x, () -> x.few(0, place), row[k]);
        }
        SnakeLadders y = on(40, 3, 0);
        y.link(0, 2, 38);
        check.asked("the first of two rows", y, () -> y.few(0, 0), 2);
        check.asked("the first of two rows: 1", y, () -> y.few(0, 1), 2);
    }

    // ---- promise 16

    private static void home() {
        SnakeLadders x = on(10, 2, 0);
        check.fraction("home(0, 0)", x, x.home(0, 0), 0, 1);
        check.fraction("home(0, 4)", x, x.home(0, 4), 0, 1);
        check.fraction("home(0, 5)", x, x.home(0, 5), 1, 32);
        x.sets(0, 9);
        check.fraction("home(0, 1)", x, x.home(0, 1), 1, 2);
        check.fraction("home(0, 2)", x, x.home(0, 2), 3, 4);
        check.fraction("home(0, 5) from 9", x, x.home(0, 5), 31, 32);
        x.sets(0, 10);
        check.fraction("home, HOME", x, x.home(0, 0), 1, 1);
        check.fraction("home, HOME, 5", x, x.home(0, 5), 1, 1);
        check.bad("home(0, 6)", x, () -> x.home(0, 6));
        check.bad("home(0, -1)", x, () -> x.home(0, -1));
        check.bad("home(1, 1)", x, () -> x.home(1, 1));
        check.bad("home(-1, 1)", x, () -> x.home(-1, 1));
        // a sleepy one that a row meets more than once: 1 1 leads HOME only if 1 did not lead before
        SnakeLadders y = on(10, 2, 0);
        y.link(1, 1, 0);
        y.link(0, 2, 10);
        // 2: HOME. 1: led to 0, then 1 again, asleep (on 1): not HOME; 2: HOME
        check.fraction("home with a sleepy one, 2", y, y.home(0, 2), 3, 4);
        // 1 1 1: from 1 to 2, HOME. 1 1 2: to 3.
        check.fraction("home with a sleepy one, 3", y, y.home(0, 3), 7, 8);
        check.due("home changes no uses", y.about(0, 3), 0);
    }

    // ---- promise 17

    private static void mean() {
        SnakeLadders x = on(20, 6, 0);
        check.fraction("mean(0, 0)", x, x.mean(0, 0), 0, 1);
        check.fraction("mean(0, 1)", x, x.mean(0, 1), 7, 2);
        check.fraction("mean(0, 2)", x, x.mean(0, 2), 7, 1);
        check.fraction("mean(0, 3)", x, x.mean(0, 3), 21, 2);
        x.sets(0, 18);
        // 19, 20, and 18 four times: 111 by 6
        check.fraction("mean(0, 1) from 18", x, x.mean(0, 1), 37, 2);
        x.sets(0, 20);
        check.fraction("mean, HOME", x, x.mean(0, 5), 20, 1);
        x.sets(0, 0);
        x.link(4, 2, 9);
        // 1 + 11 + 3 + 4 + 5 + 6
        check.fraction("mean(0, 1), generous", x, x.mean(0, 1), 5, 1);
        SnakeLadders y = on(40, 2, 4);
        y.sets(0, 39);
        check.fraction("mean, all on 40", y, y.mean(0, 2), 40, 1);
        check.asked("span, all on 40", y, () -> y.span(0, 2, 0), 1);
        check.asked("span, all on 40, least", y, () -> y.span(0, 2, 1), 40);
        check.asked("span, all on 40, greatest", y, () -> y.span(0, 2, 2), 40);
        check.bad("mean(0, 6)", x, () -> x.mean(0, 6));
        check.bad("mean(0, -1)", x, () -> x.mean(0, -1));
        check.bad("mean(1, 1)", x, () -> x.mean(1, 1));
        check.bad("mean(-1, 1)", x, () -> x.mean(-1, 1));
    }

    // ---- promise 18

    private static void ahead() {
        SnakeLadders x = on(20, 6, 0, 0);
        check.fraction("ahead(0, 1, 0)", x, x.ahead(0, 1, 0), 0, 1);
        check.fraction("ahead(0, 1, 1)", x, x.ahead(0, 1, 1), 5, 12);
        // (1296 less 146 that are alike) by 2: 575 by 1296
        check.fraction("ahead(0, 1, 2)", x, x.ahead(0, 1, 2), 575, 1296);
        x.sets(0, 20);
        check.fraction("ahead, HOME", x, x.ahead(0, 1, 2), 1, 1);
        check.fraction("ahead of one HOME", x, x.ahead(1, 0, 2), 0, 1);
        SnakeLadders y = on(10, 2, 0, 0);
        y.link(3, 1, 9);
        // a by 1: to 9, then it is broken: b is on 1 or 2. a by 2: b by 1 to 9, by 2 alike.
        check.fraction("ahead, broken under a", y, y.ahead(0, 1, 1), 1, 2);
        check.fraction("ahead, broken under b", y, y.ahead(1, 0, 1), 1, 2);
        y.rolls(1, 1);
        y.sets(1, 0);
        check.fraction("ahead, broken before", y, y.ahead(0, 1, 1), 1, 4);
        // a b a b, two sides: 11 22 12 21 each; 5 by 16 a is ahead, 6 alike
        check.fraction("ahead, two throws", y, y.ahead(0, 1, 2), 5, 16);
        check.bad("ahead(0, 0, 1)", y, () -> y.ahead(0, 0, 1));
        check.bad("ahead(0, 2, 1)", y, () -> y.ahead(0, 2, 1));
        check.bad("ahead(-1, 0, 1)", y, () -> y.ahead(-1, 0, 1));
        check.bad("ahead(0, 1, 3)", y, () -> y.ahead(0, 1, 3));
        check.bad("ahead(0, 1, -1)", y, () -> y.ahead(0, 1, -1));
    }

    // ---- promise 19

    private static void rather() {
        SnakeLadders x = on(20, 6, 0);
        check.asked("rather(0, 1, 0)", x, () -> x.rather(0, 1, 0), 19);
        check.asked("rather(0, 1, 1)", x, () -> x.rather(0, 1, 1), 1);
        // 6 rows by the first throw, 1 of each of the 5 others by the second
        check.asked("rather(0, 2, 1)", x, () -> x.rather(0, 2, 1), 11);
        check.asked("rather(0, 4, 1)", x, () -> x.rather(0, 4, 1), 671);
        x.sets(0, 20);
        check.asked("rather, HOME", x, () -> x.rather(0, 1, 0), 19);
        SnakeLadders y = on(20, 6, 0);
        y.link(0, 5, 20);
        y.link(0, 6, 20);
        // from 0 .. 4 two throws of 1 .. 6 lead HOME, but from 4 by 1, 2
        check.asked("rather, two ladders", y, () -> y.rather(0, 1, 0), 4);
        check.asked("rather, two ladders: rows", y, () -> y.rather(0, 1, 1), 2);
        SnakeLadders far = on(20, 6, 0);
        for (int a = 1; a <= 6; a++) {
            far.link(0, a, 20);
        }
        check.asked("rather, at the start", far, () -> far.rather(0, 1, 0), 0);
        check.asked("rather, at the start: rows", far, () -> far.rather(0, 1, 1), 6);
        SnakeLadders z = on(20, 6, 4, 0);
        check.asked("rather, lucky", z, () -> z.rather(0, 1, 1), 6);
        check.asked("rather, lucky: where", z, () -> z.rather(0, 1, 0), 19);
        z.link(3, 1, 20);
        z.rolls(1, 1);
        check.asked("rather, links used as now", z, () -> z.rather(1, 1, 0), 19);
        check.bad("rather(0, 0, 0)", z, () -> z.rather(0, 0, 0));
        check.bad("rather(0, 5, 0)", z, () -> z.rather(0, 5, 0));
        check.bad("rather(0, 1, 2)", z, () -> z.rather(0, 1, 2));
        check.bad("rather(0, 1, -1)", z, () -> z.rather(0, 1, -1));
        check.bad("rather(2, 1, 0)", z, () -> z.rather(2, 1, 0));
        check.bad("rather(-1, 1, 0)", z, () -> z.rather(-1, 1, 0));
    }

    // ---- promise 20

    private static void without() {
        SnakeLadders x = on(10, 6, 0);
        check.asked("without, no links", x, () -> x.without(0, 1, 0), NONE);
        check.asked("without, no links: rows", x, () -> x.without(0, 4, 1), NONE);
        check.bad("without, no links, bad", x, () -> x.without(0, 1, 2));
        x.link(0, 3, 10);
        x.link(0, 9, 0);
        x.link(0, 8, 1);
        // 3 leads HOME (6 rows); 46, 64, 55 do: 9. Without the first: 37, 73: none by 6 sides: 3
        check.asked("without(0, 2, 1)", x, () -> x.without(0, 2, 1), 11);
        check.asked("without(0, 2, 0)", x, () -> x.without(0, 2, 0), 1);
        x.sets(0, 7);
        // by 1 to 8 led to 1; by 2 to 9 led to 0; by 3 HOME; else on 7
        check.asked("without(0, 1, 0), alike", x, () -> x.without(0, 1, 0), 0);
        check.asked("without(0, 1, 1), alike", x, () -> x.without(0, 1, 1), 1);
        x.sets(0, 10);
        check.asked("without, HOME", x, () -> x.without(0, 3, 0), 0);
        check.asked("without, HOME: rows", x, () -> x.without(0, 3, 1), 216);
        check.due("without: the links stay", x.about(0, 1), 3);
        check.bad("without(0, 0, 0)", x, () -> x.without(0, 0, 0));
        check.bad("without(0, 5, 0)", x, () -> x.without(0, 5, 0));
        check.bad("without(0, 1, -1)", x, () -> x.without(0, 1, -1));
        check.bad("without(1, 1, 0)", x, () -> x.without(1, 1, 0));
        check.bad("without(-1, 1, 0)", x, () -> x.without(-1, 1, 0));
    }

    // ---- promise 21

    private static void span() {
        SnakeLadders x = on(20, 6, 0);
        int[][] due = {{1, 0, 0}, {6, 1, 6}, {11, 2, 12}, {16, 3, 18}, {17, 4, 20}};
        for (int n = 0; n <= 4; n++) {
            for (int what = 0; what < 3; what++) {
                int throwsMade = n;
                int asked = what;
                check.asked("span(0, " + n + ", " + what + ")", x, () -> x.span(0, throwsMade, asked), due[n][what]);
            }
        }
        x.link(0, 1, 0);
        x.link(0, 6, 2);
        check.asked("span with links", x, () -> x.span(0, 1, 0), 5);
        check.asked("span with links, least", x, () -> x.span(0, 1, 1), 0);
        check.asked("span with links, greatest", x, () -> x.span(0, 1, 2), 5);
        x.sets(0, 20);
        check.asked("span, HOME", x, () -> x.span(0, 4, 0), 1);
        check.asked("span, HOME, least", x, () -> x.span(0, 4, 1), 20);
        check.bad("span(0, 5, 0)", x, () -> x.span(0, 5, 0));
        check.bad("span(0, -1, 0)", x, () -> x.span(0, -1, 0));
        check.bad("span(0, 1, 3)", x, () -> x.span(0, 1, 3));
        check.bad("span(0, 1, -1)", x, () -> x.span(0, 1, -1));
        check.bad("span(1, 1, 0)", x, () -> x.span(1, 1, 0));
        check.bad("span(-1, 1, 0)", x, () -> x.span(-1, 1, 0));
    }

    // ---- promises 22 and 25

    private static int isBy(int... urx) {
        SnakeLadders x = on(20, 6);
        x.link(0, 10, 4);
        x.link(0, 3, 7);
        for (int n = 0; n + 2 < urx.length; n += 3) {
            check.due("note", x.note(0, urx[n], urx[n + 1], urx[n + 2]), n / 3 + 1);
        }
        check.asked("is of another", x, () -> x.is(1), 63);
        return x.is(0);
    }

    private static void noteAndIs() {
        check.due("is, no notes", isBy(), 63);
        check.due("is: 0 1 to 4", isBy(0, 1, 4), 0b001011);
        check.due("is: 1 1 to 4", isBy(1, 1, 4), 0b000001);
        check.due("is: 1 1 to 10", isBy(1, 1, 10), 0b001010);
        check.due("is: 2 1 to 10", isBy(2, 1, 10), 0b001000);
        check.due("is: 9 1 to 10", isBy(9, 1, 10), 0b001010);
        check.due("is: 0 1 to 3", isBy(0, 1, 3), 0b100100);
        check.due("is: 0 3 to 3", isBy(0, 3, 3), 0b000100);
        check.due("is: 0 6 to 1", isBy(0, 6, 1), 0b100000);
        check.due("is: 0 6 to 10", isBy(0, 6, 10), 0b010000);
        check.due("is: 0 1 to 4, 2 1 to 4", isBy(0, 1, 4, 2, 1, 4), 0b000011);
        check.due("is: 0 1 to 40", isBy(0, 1, 40), 0);
        check.due("is: 0 1 to 0", isBy(0, 1, 0), 0);
        SnakeLadders x = on(20, 2);
        x.link(0, 10, 4);
        check.bad("note(1, 0, 1, 4)", x, () -> x.note(1, 0, 1, 4));
        check.bad("note(-1, 0, 1, 4)", x, () -> x.note(-1, 0, 1, 4));
        check.bad("note(0, 10, 1, 4)", x, () -> x.note(0, 10, 1, 4));
        check.bad("note(0, -1, 1, 4)", x, () -> x.note(0, -1, 1, 4));
        check.bad("note(0, 0, 0, 4)", x, () -> x.note(0, 0, 0, 4));
        check.bad("note(0, 0, 7, 4)", x, () -> x.note(0, 0, 7, 4));
        check.bad("note(0, 0, 1, 41)", x, () -> x.note(0, 0, 1, 41));
        check.bad("note(0, 0, 1, -1)", x, () -> x.note(0, 0, 1, -1));
        for (int n = 1; n <= 6; n++) {
            check.due("note, the " + n + "th", x.note(0, 9, 6, 40), n);
        }
        check.full("note, the 7th", x, () -> x.note(0, 0, 1, 4));
        check.bad("note, the 7th, bad", x, () -> x.note(1, 0, 1, 4));
        check.bad("is(1)", x, () -> x.is(1));
        check.bad("is(-1)", x, () -> x.is(-1));
    }

    // ---- promise 26

    private static void look() {
        SnakeLadders x = on(20, 6);
        x.link(0, 10, 4);
        // used 0, by 1: 4 4 3 4 5 3 (three); used 0, by 6: 4 4 3 4 10 1: three; used 1, by 1: 4 10 3 10 5 3: two
        check.asked("look(0)", x, () -> x.look(0), 11);
        x.note(0, 0, 1, 4);
        // plain, sleepy, broken: 1 leads to 4 10 10, 2 to 4 4 10: two at best
        check.asked("look(0), three kinds", x, () -> x.look(0), 11);
        x.note(0, 1, 1, 10);
        check.asked("look(0), sleepy or broken", x, () -> x.look(0), 21);
        x.note(0, 2, 1, 10);
        check.asked("look(0), broken: one is one by any", x, () -> x.look(0), 1);
        x.note(0, 2, 1, 4);
        check.asked("look(0), none", x, () -> x.look(0), NONE);
        x.link(5, 7, 8);
        x.note(1, 0, 1, 7);
        // greased or oiled: the first by which these are unlike is a throw of 3
        check.asked("look(1), greased or oiled", x, () -> x.look(1), 3);
        check.bad("look(2)", x, () -> x.look(2));
        check.bad("look(-1)", x, () -> x.look(-1));
    }

    // ---- promises 23 and 27

    private static int kindsBy(int... prx) {
        SnakeLadders x = on(20, 2, 0, 1);
        x.link(0, 3, 9);
        for (int n = 0; n + 2 < prx.length; n += 3) {
            check.due("mark", x.mark(0, prx[n], prx[n + 1], prx[n + 2]), n / 3 + 1);
        }
        check.asked("kinds of another", x, () -> x.kinds(1), 63);
        return x.kinds(0);
    }

    private static void markAndKinds() {
        check.due("kinds, no marks", kindsBy(), 63);
        check.due("kinds: 0 1 to 1", kindsBy(0, 1, 1), 0b100111);
        check.due("kinds: 0 1 to 2", kindsBy(0, 1, 2), 0b011000);
        check.due("kinds: 0 6 to 3", kindsBy(0, 6, 3), 0b100100);
        check.due("kinds: 0 5 to 3", kindsBy(0, 5, 3), 0b100000);
        check.due("kinds: 0 3 to 3, links left aside", kindsBy(0, 3, 3), 0b011111);
        check.due("kinds: 18 4 to 18", kindsBy(18, 4, 18), 0b001111);
        check.due("kinds: 18 5 to 18", kindsBy(18, 5, 18), 0b101101);
        check.due("kinds: 18 4 to 20", kindsBy(18, 4, 20), 0b110000);
        check.due("kinds: 19 1 to 20", kindsBy(19, 1, 20), 0b110111);
        check.due("kinds: 20 1 to 19", kindsBy(20, 1, 19), 0b000010);
        check.due("kinds: 40 6 to 40", kindsBy(40, 6, 40), 0b101101);
        check.due("kinds: 40 6 to 20", kindsBy(40, 6, 20), 0b010000);
        check.due("kinds: 0 1 to 0", kindsBy(0, 1, 0), 0);
        check.due("kinds: two marks", kindsBy(0, 1, 1, 0, 6, 6), 0b000011);
        SnakeLadders x = on(20, 2, 0);
        check.bad("mark(1, 0, 1, 1)", x, () -> x.mark(1, 0, 1, 1));
        check.bad("mark(-1, 0, 1, 1)", x, () -> x.mark(-1, 0, 1, 1));
        check.bad("mark(0, 41, 1, 1)", x, () -> x.mark(0, 41, 1, 1));
        check.bad("mark(0, -1, 1, 1)", x, () -> x.mark(0, -1, 1, 1));
        check.bad("mark(0, 0, 0, 1)", x, () -> x.mark(0, 0, 0, 1));
        check.bad("mark(0, 0, 7, 1)", x, () -> x.mark(0, 0, 7, 1));
        check.bad("mark(0, 0, 1, 41)", x, () -> x.mark(0, 0, 1, 41));
        check.bad("mark(0, 0, 1, -1)", x, () -> x.mark(0, 0, 1, -1));
        for (int n = 1; n <= 6; n++) {
            check.due("mark, the " + n + "th", x.mark(0, 40, 6, 40), n);
        }
        check.full("mark, the 7th", x, () -> x.mark(0, 0, 1, 1));
        check.bad("mark, the 7th, bad", x, () -> x.mark(0, 0, 9, 1));
        check.bad("kinds(1)", x, () -> x.kinds(1));
        check.bad("kinds(-1)", x, () -> x.kinds(-1));
    }

    // ---- promise 28

    private static void ask() {
        SnakeLadders x = on(20, 2, 0, 0);
        // by 6 from 15: 15, 19, 18, 15, 20, 18: two at most; from 14 or below none bounces or is lucky
        check.asked("ask(0)", x, () -> x.ask(0), 1506);
        x.mark(0, 0, 1, 2);
        // cheat or lucky: from 15 by 6 to 15 or 20
        check.asked("ask(0), cheat or lucky", x, () -> x.ask(0), 1506);
        x.mark(0, 19, 6, 20);
        check.asked("ask(0), lucky: one is one by any", x, () -> x.ask(0), 1);
        x.mark(0, 19, 6, 19);
        check.asked("ask(0), none", x, () -> x.ask(0), NONE);
        x.mark(1, 0, 6, 3);
        // timid or limper: 0 by 2 to 2 or 1
        check.asked("ask(1), timid or limper", x, () -> x.ask(1), 2);
        check.bad("ask(2)", x, () -> x.ask(2));
        check.bad("ask(-1)", x, () -> x.ask(-1));
    }

    // ---- promise 24

    private static void forget() {
        SnakeLadders x = on(20, 6, 0);
        x.link(0, 3, 9);
        x.note(0, 0, 1, 9);
        x.note(0, 0, 1, 40);
        x.mark(0, 0, 1, 1);
        check.bad("forget(2)", x, () -> x.forget(2));
        check.bad("forget(-1)", x, () -> x.forget(-1));
        check.due("forget(0)", x.forget(0), 2);
        check.due("forget(0): notes", x.count(7), 0);
        check.due("forget(0): marks stay", x.count(8), 1);
        check.due("forget(0): is", x.is(0), 63);
        check.due("forget(1)", x.forget(1), 1);
        check.due("forget(1): marks", x.count(8), 0);
        check.due("forget(1) again", x.forget(1), 0);
        check.due("note again", x.note(0, 0, 1, 9), 1);
    }

    // ---- promise 29

    private static void choice() {
        SnakeLadders x = on(20, 2, 0, 0);
        // 11: -3 -3, 12: 0 1, 21: 1 0, 22: -3 -3
        check.asked("choice(0, 1, NONE)", x, () -> x.choice(0, 1, NONE), 2);
        check.asked("choice(0, 1, 0)", x, () -> x.choice(0, 1, 0), 12);
        check.asked("choice(0, 1, 1)", x, () -> x.choice(0, 1, 1), 21);
        check.asked("choice(0, 1, 2)", x, () -> x.choice(0, 1, 2), -5);
        check.asked("choice(0, 1, MAX)", x, () -> x.choice(0, 1, Integer.MAX_VALUE), -5);
        x.sets(0, 19);
        x.sets(1, 19);
        // each gets HOME by 1, even if the other names it: 11: 7 7, 12: 11 0, 21: 0 11, 22: -3 -3
        check.asked("choice, both by 1", x, () -> x.choice(0, 1, NONE), 1);
        check.asked("choice, both by 1: which", x, () -> x.choice(0, 1, 0), 11);
        x.sets(0, 20);
        // a is HOME: 10 or 11; b by 1 HOME: 11: 7 7, 12: 11 0, 21: 10 10, 22: 8 -3
        check.asked("choice, one HOME", x, () -> x.choice(0, 1, NONE), 1);
        check.asked("choice, one HOME: which", x, () -> x.choice(0, 1, 0), 21);
        check.asked("choice, the other way", x, () -> x.choice(1, 0, 0), 12);
        check.badByTen("choice(0, 0, NONE)", x, () -> x.choice(0, 0, NONE));
        check.badByTen("choice(0, 2, NONE)", x, () -> x.choice(0, 2, NONE));
        check.badByTen("choice(-1, 0, NONE)", x, () -> x.choice(-1, 0, NONE));
        check.badByTen("choice(0, 1, -2)", x, () -> x.choice(0, 1, -2));
        SnakeLadders y = on(10, 2, 0, 0);
        y.link(3, 1, 10);
        // a first: 1 leads a HOME and breaks: 11: 8 -3, 12: 11 0, 21: 0 11, 22: -3 -3
        check.asked("choice, a breaks it", y, () -> y.choice(0, 1, NONE), 1);
        check.asked("choice, a breaks it: which", y, () -> y.choice(0, 1, 0), 12);
        SnakeLadders z = on(40, 6, 0, 0);
        // 56, 65 rest; who has 5 against 6 gets 0 by any but 6 (-3); who has 6 against 5 gets 1 by 6 alone,
        // and whoever is behind 6 may name 1 .. 5: 16 .. 56, 61 .. 65
        check.asked("choice, six sides", z, () -> z.choice(0, 1, NONE), 10);
        check.asked("choice, six sides, 4", z, () -> z.choice(0, 1, 4), 56);
        check.asked("choice, six sides, 9", z, () -> z.choice(0, 1, 9), 65);
    }

    // ---- promise 30

    private static void evenings() {
        SnakeLadders x = on(10, 6, 4, 4, 4, 4);
        check.asked("evenings(0, 0)", x, () -> x.evenings(0, 0), 0);
        check.asked("evenings(0, 60)", x, () -> x.evenings(0, 60), 4);
        // seed 0: X is 12345: player 0, throws 1. seed 1: 1103527590: 16838 by 4: player 2; 1052 by 6: 2, and 1: 3
        SnakeLadders y = on(10, 6, 0, 0, 0, 0);
        y.sets(2, 7);
        check.asked("evenings(1, 1): HOME by 3", y, () -> y.evenings(1, 1), 1);
        check.asked("evenings(0, 1)", y, () -> y.evenings(0, 1), 0);
        y.sets(2, 8);
        check.asked("evenings(1, 1): not by 3", y, () -> y.evenings(1, 1), 0);
        y.sets(0, 9);
        check.asked("evenings(0, 1): HOME by 1", y, () -> y.evenings(0, 1), 1);
        y.sets(3, 10);
        check.asked("evenings(0, 1): two", y, () -> y.evenings(0, 1), 2);
        SnakeLadders z = new SnakeLadders();
        check.asked("evenings, nobody", z, () -> z.evenings(999999, 60), 0);
        check.bad("evenings(-1, 0)", z, () -> z.evenings(-1, 0));
        check.bad("evenings(1000000, 0)", z, () -> z.evenings(1000000, 0));
        check.bad("evenings(0, -1)", z, () -> z.evenings(0, -1));
        check.bad("evenings(0, 61)", z, () -> z.evenings(0, 61));
    }

    // ---- promise 31

    private static void part() {
        SnakeLadders x = on(20, 6, 0);
        check.due("part(0)", x.part(0), 0);
        check.due("part(1)", x.part(1), 1);
        x.mean(0, 1);
        check.asked("part(0)", x, () -> x.part(0), 7);
        check.asked("part(1)", x, () -> x.part(1), 2);
        check.bad("mean refused", x, () -> x.mean(0, 6));
        check.due("part(0) stays", x.part(0), 7);
        check.bad("part(2)", x, () -> x.part(2));
        check.bad("part(-1)", x, () -> x.part(-1));
    }

    // ---- promises 32 and 33

    private static void images() {
        SnakeLadders x = on(15, 3, 0, 5);
        x.link(1, 2, 9);
        x.note(0, 0, 1, 9);
        x.mark(1, 0, 1, 1);
        x.rolls(0, 2);
        x.rolls(0, 2);
        x.type(65);
        check.bad("image(2)", x, () -> x.image(2));
        check.bad("image(-1)", x, () -> x.image(-1));
        check.bad("from(2)", x, () -> x.from(2));
        check.bad("from(-1)", x, () -> x.from(-1));
        check.no("from(1), not kept", x, () -> x.from(1));
        long state = x.digest();
        check.due("image(1)", x.image(1), 1);
        check.no("from(0), not kept", x, () -> x.from(0));
        check.due("image: to undo stays", x.count(9), 2);
        x.board(40, 6);
        x.player(3);
        x.mean(0, 1);
        x.type(66);
        check.due("image(0)", x.image(0), 1);
        check.due("from(1)", x.from(1), 1);
        check.due("from: the text stays", x.clear(), 2);
        x.type(65);
        check.due("from: the fraction stays", x.part(0) * 1000 + x.part(1), 11003);
        x.home(0, 0);
        check.due("from: all as it was", x.digest(), state);
        check.due("from: undo()", x.undo(), 0);
        check.due("from: undone", x.of(0, 1), 9);
        check.due("from: undo() again", x.undo(), 0);
        check.due("from: used undone", x.about(0, 3), 0);
        check.due("from(1) again", x.from(1), 1);
        check.due("from again: all as it was", x.digest(), state);
        check.due("from(0)", x.from(0), 1);
        check.due("from(0): L", x.count(0), 40);
        check.due("from(0): kind", x.of(0, 0), 3);
        check.due("status of all", x.status(0) * 100 + x.status(1) * 10 + x.status(2), 420);
        imagesKeepWhatMayBeUndone();
    }

    private static void imagesKeepWhatMayBeUndone() {
        SnakeLadders x = on(20, 6, 0, 0, 0);
        x.link(0, 3, 9);
        x.link(0, 5, 11);
        x.rolls(1, 5);
        x.rolls(2, 3);
        x.sets(2, 1);
        x.note(1, 2, 3, 4);
        x.mark(2, 4, 6, 8);
        long state = x.digest();
        x.image(0);
        x.undo();
        x.undo();
        x.undo();
        // other moves, notes and marks in the same places as those of the image
        x.sets(0, 7);
        x.rolls(0, 1);
        x.rolls(2, 5);
        x.forget(0);
        x.forget(1);
        x.note(0, 0, 1, 0);
        x.mark(0, 0, 1, 0);
        check.due("from(0) behind other moves", x.from(0), 1);
        check.due("from(0): all as it was", x.digest(), state);
        int[][] due = {{11, 9, 1, 1}, {11, 0, 0, 1}, {0, 0, 0, 0}};
        for (int n = 0; n < due.length; n++) {
            x.undo();
            check.due("undo of an image: player 1", x.of(1, 1), due[n][0]);
            check.due("undo of an image: player 2", x.of(2, 1), due[n][1]);
            check.due("undo of an image: throws", x.of(2, 2), due[n][2]);
            check.due("undo of an image: used", x.about(0, 3), due[n][2]);
            check.due("undo of an image: used", x.about(1, 3), due[n][3]);
        }
        check.due("undo of an image: player 0", x.of(0, 1), 0);
        check.no("undo of an image: no more", x, x::undo);
    }

    // ---- promise 34

    private static void status() {
        SnakeLadders x = new SnakeLadders();
        check.due("status(3)", x.status(3), -1);
        check.due("status(0)", x.status(0), 1);
        check.due("status(-1)", x.status(-1), -1);
        check.due("status(0), two", x.status(0), 2);
        x.undo();
        x.few(0, 0);
        x.choice(0, 1, 0);
        for (int n = 0; n < 5; n++) {
            x.player(0);
        }
        x.read();
        x.few(0, 9);
        x.look(0);
        check.due("status(0), then", x.status(0), 5);
        check.due("status(1), then", x.status(1), 1);
        check.due("status(2), then", x.status(2), 1);
        x.board(20, 6);
        check.due("status(0) stays", x.status(0), 5);
        for (int wild : WILD) {
            check.refused("status(" + wild + ")", x, () -> x.status(wild), -1, 0);
        }
    }

    // ---- promise 35

    private static void count() {
        SnakeLadders x = on(12, 4, 0, 1, 2);
        x.link(0, 3, 12);
        x.link(0, 4, 1);
        x.rolls(0, 3);
        x.rolls(1, 4);
        x.rolls(1, 3);
        x.rolls(2, 1);
        x.note(0, 0, 1, 1);
        x.mark(0, 0, 1, 1);
        x.mark(0, 0, 1, 1);
        x.type(1);
        x.type(1);
        x.type(1);
        int[] due = {12, 4, 2, 3, 1, 4, 3, 1, 2, 4, 3};
        for (int n = 0; n < due.length; n++) {
            int what = n;
            check.asked("count(" + n + ")", x, () -> x.count(what), due[n]);
        }
        check.bad("count(11)", x, () -> x.count(11));
        check.bad("count(-1)", x, () -> x.count(-1));
        for (int wild : WILD) {
            check.bad("count(" + wild + ")", x, () -> x.count(wild));
        }
    }

    // ---- promise 36

    private static long digestOf(long... values) {
        long h = 1831;
        for (long v : values) {
            h = 31 * h + v;
        }
        return h;
    }

    private static void digest() {
        SnakeLadders x = new SnakeLadders();
        check.due("digest() of a new one", x.digest(), digestOf(20, 6, 0, 0, 0, 0, 0, 0, 0, 0, 0, 0, 1));
        x.board(12, 4);
        x.link(2, 3, 9);
        x.link(5, 1, 12);
        x.player(4);
        x.player(1);
        x.rolls(0, 3);
        x.rolls(0, 1);
        x.note(1, 2, 3, 4);
        x.note(0, 9, 6, 40);
        x.mark(1, 40, 6, 39);
        x.type(32);
        x.mean(1, 1);
        // player 0: 3, led to 8; a cheat's 1: 10. player 1 by 1 .. 4: 11 2 8 4: 25 by 4
        check.due("digest()", x.digest(), digestOf(12, 4, 2, 2, 0, 2, 1, 2, 1, 2, 1,
            2, 3, 9, 1, 5, 1, 12, 0, 4, 10, 2, 1, 0, 0, 1, 2, 3, 4, 0, 9, 6, 40, 1, 40, 6, 39, 25, 4));
        x.rolls(0, 4);
        check.due("one HOME", x.count(4), 1);
        check.due("digest() then", x.digest(), digestOf(12, 4, 2, 2, 1, 3, 1, 2, 1, 3, 1,
            2, 3, 9, 1, 5, 1, 12, 0, 4, 12, 3, 1, 0, 0, 1, 2, 3, 4, 0, 9, 6, 40, 1, 40, 6, 39, 25, 4));
    }
}
