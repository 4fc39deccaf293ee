/**
 * Snakes and ladders of kinds, players of kinds, and what may be asked of them.
 * The words in capitals (SQUARE, LINK, USED, ..) are those of ../shared/DOC.md.
 */
public final class SnakeLadders {

    public static final int NONE = -1, BAD = -2, NO = -3, FULL = -4;

    private static final int LEAST_LENGTH = 10, MOST_LENGTH = 40, FIRST_LENGTH = 20;
    private static final int LEAST_SIDES = 2, MOST_SIDES = 6, FIRST_SIDES = 6;
    private static final int MOST_LINKS = 6, MOST_PLAYERS = 4, KINDS = 6;
    private static final int MOST_USED = 99, MOST_THROWS = 9999;
    private static final int MOST_SEEN = 6, MOST_UNDONE = 8, MOST_TEXT = 150, IMAGES = 2;
    private static final int MOST_DEPTH = 5;

    /** The answers of few and choice that are no refusal, and their BAD. */
    private static final int NOT_SO_MANY = -5, NO_ROW = -6, BAD_TEN = -10;

    private final Game game = new Game();
    private final Game[] images = {new Game(), new Game()};
    private final boolean[] kept = new boolean[IMAGES];
    private final TextReader text = new TextReader();
    private final Outlook outlook = new Outlook();
    private final Guess guess = new Guess();
    private long above = 0;
    private long below = 1;
    private int bads = 0;
    private int noes = 0;
    private int fulls = 0;

    public SnakeLadders() {
    }

    // ---- a board

    public int board(int l, int d) {
        if (!within(l, LEAST_LENGTH, MOST_LENGTH) || !within(d, LEAST_SIDES, MOST_SIDES)) {
            return refuse(BAD);
        }
        int before = game.board.players;
        game.dropPast();
        game.board.start(l, d);
        return before;
    }

    public int die(int d) {
        if (!within(d, LEAST_SIDES, MOST_SIDES)) {
            return refuse(BAD);
        }
        int before = game.board.sides;
        game.board.sides = d;
        game.history.empty();
        return before;
    }

    public int link(int kind, int a, int b) {
        Board now = game.board;
        boolean told = within(kind, 0, KINDS - 1) && within(a, 1, now.length - 1) && within(b, 0, now.length);
        if (!told || a == b) {
            return refuse(BAD);
        }
        if (now.linkOn(a) != NONE) {
            return refuse(NO);
        }
        if (now.links >= MOST_LINKS) {
            return refuse(FULL);
        }
        game.history.empty();
        return now.addLink(kind, a, b);
    }

    public int player(int kind) {
        if (!within(kind, 0, KINDS - 1)) {
            return refuse(BAD);
        }
        if (game.board.players >= MOST_PLAYERS) {
            return refuse(FULL);
        }
        game.history.empty();
        return game.board.addPlayer(kind);
    }

    public int type(int c) {
        if (!within(c, 0, 127)) {
            return refuse(BAD);
        }
        if (text.length >= MOST_TEXT) {
            return refuse(FULL);
        }
        return text.append(c);
    }

    public int clear() {
        return text.empty();
    }

    public int read() {
        int items = text.readItems();
        if (items == NONE) {
            return -10 - text.fault();
        }
        game.dropPast();
        game.board.copy(text.draft);
        return items;
    }

    // ---- throws

    public int rolls(int i, int r) {
        if (!isPlayer(i) || !within(r, 1, game.board.sides)) {
            return refuse(BAD);
        }
        if (game.board.isHome(i)) {
            return refuse(NO);
        }
        game.board.move(i, r, game.history.nextStep());
        return game.board.square[i];
    }

    public int sets(int i, int p) {
        if (!isPlayer(i) || !within(p, 0, game.board.length)) {
            return refuse(BAD);
        }
        int before = game.board.square[i];
        if (before == p) {
            return refuse(NO);
        }
        game.board.remember(i, game.history.nextStep());
        game.board.square[i] = p;
        return before;
    }

    public int undo() {
        if (game.history.size == 0) {
            return refuse(NO);
        }
        game.history.takeBack(game.board);
        return game.board.homes();
    }

    public int of(int i, int what) {
        if (!isPlayer(i) || !within(what, 0, 2)) {
            return refuse(BAD);
        }
        switch (what) {
            case 0: return game.board.playerKind[i];
            case 1: return game.board.square[i];
            default: return game.board.thrown[i];
        }
    }

    public int about(int k, int what) {
        if (!isLink(k) || !within(what, 0, 3)) {
            return refuse(BAD);
        }
        switch (what) {
            case 0: return game.board.linkKind[k];
            case 1: return game.board.linkFrom[k];
            case 2: return game.board.linkTo[k];
            default: return game.board.used[k];
        }
    }

    // ---- where one comes to

    public int goes(int i, int r) {
        if (!isPlayer(i) || !within(r, 1, game.board.sides)) {
            return refuse(BAD);
        }
        if (game.board.isHome(i)) {
            return refuse(NO);
        }
        return game.board.landing(i, r);
    }

    public int few(int i, int k) {
        if (!isPlayer(i) || k < NONE) {
            return refuseByTen();
        }
        int throwsNeeded = outlook.fewest(game.board, i);
        if (throwsNeeded == NONE) {
            return NO_ROW;
        }
        if (k == NONE) {
            return throwsNeeded;
        }
        return k < throwsNeeded ? outlook.rowAt(k) : NOT_SO_MANY;
    }

    public int home(int i, int n) {
        if (!isPlayer(i) || !within(n, 0, 5)) {
            return refuse(BAD);
        }
        outlook.spread(game.board, i, n);
        return keepFraction(outlook.rowsHome(), power(game.board.sides, n));
    }

    public int mean(int i, int n) {
        if (!isPlayer(i) || !within(n, 0, 5)) {
            return refuse(BAD);
        }
        outlook.spread(game.board, i, n);
        return keepFraction(outlook.sumOfSquares(), power(game.board.sides, n));
    }

    public int ahead(int a, int b, int n) {
        if (!areUnlikePlayers(a, b) || !within(n, 0, 2)) {
            return refuse(BAD);
        }
        int rows = outlook.rowsAhead(game.board, a, b, n);
        return keepFraction(rows, power(game.board.sides, 2 * n));
    }

    public int rather(int i, int n, int what) {
        if (!isPlayer(i) || !within(n, 1, 4) || !within(what, 0, 1)) {
            return refuse(BAD);
        }
        outlook.findBestSquare(game.board, i, n);
        return what == 0 ? outlook.best : outlook.bestRows;
    }

    public int without(int i, int n, int what) {
        if (!isPlayer(i) || !within(n, 1, 4) || !within(what, 0, 1)) {
            return refuse(BAD);
        }
        outlook.findWorstLink(game.board, i, n);
        return what == 0 ? outlook.best : outlook.bestRows;
    }

    public int span(int i, int n, int what) {
        if (!isPlayer(i) || !within(n, 0, 4) || !within(what, 0, 2)) {
            return refuse(BAD);
        }
        outlook.spread(game.board, i, n);
        switch (what) {
            case 0: return outlook.unlikeSquares();
            case 1: return outlook.leastSquare();
            default: return outlook.greatestSquare();
        }
    }

    // ---- what it is

    public int note(int k, int u, int r, int x) {
        if (!isLink(k) || !within(u, 0, 9) || !within(r, 1, 6) || !within(x, 0, MOST_LENGTH)) {
            return refuse(BAD);
        }
        if (game.notes.size >= MOST_SEEN) {
            return refuse(FULL);
        }
        return game.notes.add(k, u, r, x);
    }

    public int mark(int i, int p, int r, int x) {
        if (!isPlayer(i) || !within(p, 0, MOST_LENGTH) || !within(r, 1, 6) || !within(x, 0, MOST_LENGTH)) {
            return refuse(BAD);
        }
        if (game.marks.size >= MOST_SEEN) {
            return refuse(FULL);
        }
        return game.marks.add(i, p, r, x);
    }

    public int forget(int what) {
        if (!within(what, 0, 1)) {
            return refuse(BAD);
        }
        return what == 0 ? game.notes.empty() : game.marks.empty();
    }

    public int is(int k) {
        if (!isLink(k)) {
            return refuse(BAD);
        }
        return guess.linkKinds(game.board, game.notes, k);
    }

    public int look(int k) {
        if (!isLink(k)) {
            return refuse(BAD);
        }
        return guess.bestLook(game.board, game.notes, k);
    }

    public int kinds(int i) {
        if (!isPlayer(i)) {
            return refuse(BAD);
        }
        return guess.playerKinds(game.board, game.marks, i);
    }

    public int ask(int i) {
        if (!isPlayer(i)) {
            return refuse(BAD);
        }
        return guess.bestAsk(game.board, game.marks, i);
    }

    public int choice(int a, int b, int k) {
        if (!areUnlikePlayers(a, b) || k < NONE) {
            return refuseByTen();
        }
        outlook.weighPairs(game.board, a, b);
        if (k == NONE) {
            return outlook.restingPairs();
        }
        int pair = outlook.restingPair(k);
        return pair == NONE ? NOT_SO_MANY : pair;
    }

    public int evenings(int seed, int n) {
        if (!within(seed, 0, 999999) || !within(n, 0, 60)) {
            return refuse(BAD);
        }
        return outlook.homesBySeed(game.board, seed, n);
    }

    // ---- what there is

    public long part(int what) {
        if (!within(what, 0, 1)) {
            return refuse(BAD);
        }
        return what == 0 ? above : below;
    }

    public int image(int i) {
        if (!within(i, 0, IMAGES - 1)) {
            return refuse(BAD);
        }
        images[i].copy(game);
        kept[i] = true;
        return 1;
    }

    public int from(int i) {
        if (!within(i, 0, IMAGES - 1)) {
            return refuse(BAD);
        }
        if (!kept[i]) {
            return refuse(NO);
        }
        game.copy(images[i]);
        return 1;
    }

    public int status(int what) {
        switch (what) {
            case 0: return bads;
            case 1: return noes;
            case 2: return fulls;
            default:
                refuse(BAD);
                return -1;
        }
    }

    public int count(int what) {
        return within(what, 0, 10) ? amount(what) : refuse(BAD);
    }

    public long digest() {
        long h = 1831;
        for (int what = 0; what <= 10; what++) {
            h = 31 * h + amount(what);
        }
        h = game.digestOn(h);
        h = 31 * h + above;
        return 31 * h + below;
    }

    private int amount(int what) {
        Board now = game.board;
        switch (what) {
            case 0: return now.length;
            case 1: return now.sides;
            case 2: return now.links;
            case 3: return now.players;
            case 4: return now.homes();
            case 5: return now.thrownByAll();
            case 6: return now.usedOfAll();
            case 7: return game.notes.size;
            case 8: return game.marks.size;
            case 9: return game.history.size;
            default: return text.length;
        }
    }

    private int refuse(int reason) {
        if (reason == FULL) {
            fulls++;
        } else if (reason == NO) {
            noes++;
        } else {
            bads++;
        }
        return reason;
    }

    private int refuseByTen() {
        refuse(BAD);
        return BAD_TEN;
    }

    private boolean isPlayer(int i) {
        return within(i, 0, game.board.players - 1);
    }

    private boolean isLink(int k) {
        return within(k, 0, game.board.links - 1);
    }

    private boolean areUnlikePlayers(int a, int b) {
        return isPlayer(a) && isPlayer(b) && a != b;
    }

    private int keepFraction(long rows, long ofRows) {
        long common = commonDivisor(rows, ofRows);
        if (common > 0) {
            above = rows / common;
            below = ofRows / common;
        }
        return 1;
    }

    private static boolean within(int x, int least, int most) {
        return x >= least && x <= most;
    }

    private static int power(int base, int exponent) {
        int product = 1;
        for (int n = 0; n < exponent; n++) {
            product *= base;
        }
        return product;
    }

    private static long commonDivisor(long x, long y) {
        long a = x;
        long b = y;
        for (int turn = 0; turn < 200 && b != 0; turn++) {
            long rest = a % b;
            a = b;
            b = rest;
        }
        return a;
    }

    private static int leftOver(long x, int by) {
        return by < 1 ? 0 : (int) (x % by);
    }

    /** To which SQUARE a KIND of PLAYERS goes from p by a throw r, LINKS left aside. */
    private static final class PlayerKinds {
        private static final int BOUNCER = 1, TIMID = 2, CHEAT = 3, LUCKY = 4, LIMPER = 5;

        static int square(int kind, int p, int r, int length) {
            switch (kind) {
                case BOUNCER: return p + r > length ? 2 * length - p - r : p + r;
                case TIMID: return plain(p, timidly(r), length);
                case CHEAT: return plain(p, cheated(r), length);
                case LUCKY: return p + r >= length ? length : plain(p, cheated(r), length);
                case LIMPER: return plain(p, timidly((r + 1) / 2), length);
                default: return plain(p, r, length);
            }
        }

        private static int plain(int p, int r, int length) {
            return p + r > length ? p : p + r;
        }

        private static int timidly(int r) {
            return r == 6 ? 3 : r;
        }

        private static int cheated(int r) {
            return r == 1 ? 2 : r;
        }
    }

    /** To which SQUARE a KIND of LINKS from a to b leads, USED u times before, by a throw r. */
    private static final class LinkKinds {
        private static final int SLEEPY = 1, GREASED = 2, BROKEN = 3, GENEROUS = 4, OILED = 5;

        static int square(int kind, int a, int b, int u, int r, int length) {
            switch (kind) {
                case SLEEPY: return u % 2 == 1 ? a : b;
                case GREASED: return Math.max(0, b - 1);
                // Where SLEEPY, above it, leads to a, u is odd, and so 1 or more already.
                case BROKEN: return u >= 1 ? a : b;
                case GENEROUS: return Math.min(length, b + r);
                case OILED: return Math.max(0, b - 1 - r / 3);
                default: return b;
            }
        }
    }

    /** What a move may change, as it was ahead of it; link is NONE where no LINK led on. */
    private static final class Step {
        int player = 0;
        int square = 0;
        int thrown = 0;
        int link = NONE;
        int used = 0;

        void copy(Step other) {
            player = other.player;
            square = other.square;
            thrown = other.thrown;
            link = other.link;
            used = other.used;
        }
    }

    /** SQUARES, DIE, LINKS, PLAYERS. Callers name only LINKS and PLAYERS that are there. */
    private static final class Board {
        int length = FIRST_LENGTH;
        int sides = FIRST_SIDES;
        int links = 0;
        int players = 0;
        final int[] linkKind = new int[MOST_LINKS];
        final int[] linkFrom = new int[MOST_LINKS];
        final int[] linkTo = new int[MOST_LINKS];
        final int[] used = new int[MOST_LINKS];
        final int[] playerKind = new int[MOST_PLAYERS];
        final int[] square = new int[MOST_PLAYERS];
        final int[] thrown = new int[MOST_PLAYERS];

        void start(int l, int d) {
            length = l;
            sides = d;
            links = 0;
            players = 0;
        }

        void copy(Board other) {
            length = other.length;
            sides = other.sides;
            links = other.links;
            players = other.players;
            for (int k = 0; k < MOST_LINKS; k++) {
                linkKind[k] = other.linkKind[k];
                linkFrom[k] = other.linkFrom[k];
                linkTo[k] = other.linkTo[k];
                used[k] = other.used[k];
            }
            for (int i = 0; i < MOST_PLAYERS; i++) {
                playerKind[i] = other.playerKind[i];
                square[i] = other.square[i];
                thrown[i] = other.thrown[i];
            }
        }

        int addLink(int kind, int a, int b) {
            int k = links;
            if (k >= MOST_LINKS) {
                return NONE;
            }
            linkKind[k] = kind;
            linkFrom[k] = a;
            linkTo[k] = b;
            used[k] = 0;
            links++;
            return k;
        }

        int addPlayer(int kind) {
            int i = players;
            if (i >= MOST_PLAYERS) {
                return NONE;
            }
            playerKind[i] = kind;
            square[i] = 0;
            thrown[i] = 0;
            players++;
            return i;
        }

        int linkOn(int p) {
            for (int k = 0; k < links; k++) {
                if (linkFrom[k] == p) {
                    return k;
                }
            }
            return NONE;
        }

        boolean isHome(int i) {
            return square[i] == length;
        }

        int homes() {
            int sum = 0;
            for (int i = 0; i < players; i++) {
                if (isHome(i)) {
                    sum++;
                }
            }
            return sum;
        }

        int thrownByAll() {
            int sum = 0;
            for (int i = 0; i < players; i++) {
                sum += thrown[i];
            }
            return sum;
        }

        int usedOfAll() {
            int sum = 0;
            for (int k = 0; k < links; k++) {
                sum += used[k];
            }
            return sum;
        }

        int landing(int i, int r) {
            int told = PlayerKinds.square(playerKind[i], square[i], r, length);
            int k = linkMet(i, told);
            return k == NONE ? told : leadOf(k, r);
        }

        void move(int i, int r, Step was) {
            remember(i, was);
            int told = PlayerKinds.square(playerKind[i], square[i], r, length);
            int k = linkMet(i, told);
            square[i] = told;
            if (k != NONE) {
                was.link = k;
                was.used = used[k];
                square[i] = leadOf(k, r);
                used[k] = Math.min(MOST_USED, used[k] + 1);
            }
            thrown[i] = Math.min(MOST_THROWS, thrown[i] + 1);
        }

        void remember(int i, Step was) {
            was.player = i;
            was.square = square[i];
            was.thrown = thrown[i];
            was.link = NONE;
        }

        void takeBack(Step was) {
            square[was.player] = was.square;
            thrown[was.player] = was.thrown;
            if (was.link != NONE) {
                used[was.link] = was.used;
            }
        }

        // One who stays where he was (too far, or bounced back to it) does not come to a LINK.
        private int linkMet(int i, int told) {
            return told == square[i] ? NONE : linkOn(told);
        }

        private int leadOf(int k, int r) {
            return LinkKinds.square(linkKind[k], linkFrom[k], linkTo[k], used[k], r, length);
        }
    }

    /** The last moves that may be undone, the oldest first. */
    private static final class History {
        int size = 0;
        private final Step[] steps = manySteps(MOST_UNDONE);

        static Step[] manySteps(int many) {
            Step[] made = new Step[Math.max(0, many)];
            for (int n = 0; n < made.length; n++) {
                made[n] = new Step();
            }
            return made;
        }

        void empty() {
            size = 0;
        }

        Step nextStep() {
            if (size >= MOST_UNDONE) {
                dropOldest();
            }
            Step next = steps[size];
            size++;
            return next;
        }

        // The Step that is dropped is used again behind the others: nothing new is made.
        private void dropOldest() {
            Step oldest = steps[0];
            for (int n = 1; n < MOST_UNDONE; n++) {
                steps[n - 1] = steps[n];
            }
            steps[MOST_UNDONE - 1] = oldest;
            size = MOST_UNDONE - 1;
        }

        void takeBack(Board board) {
            if (size > 0) {
                size--;
                board.takeBack(steps[size]);
            }
        }

        void copy(History other) {
            size = other.size;
            for (int n = 0; n < MOST_UNDONE; n++) {
                steps[n].copy(other.steps[n]);
            }
        }
    }

    /** NOTES, or MARKS: who was seen, as it was before (u, or p), by which throw, to which SQUARE. */
    private static final class Seen {
        int size = 0;
        final int[] who = new int[MOST_SEEN];
        final int[] before = new int[MOST_SEEN];
        final int[] by = new int[MOST_SEEN];
        final int[] to = new int[MOST_SEEN];

        int add(int one, int was, int r, int x) {
            if (size < MOST_SEEN) {
                who[size] = one;
                before[size] = was;
                by[size] = r;
                to[size] = x;
                size++;
            }
            return size;
        }

        int empty() {
            int had = size;
            size = 0;
            return had;
        }

        void copy(Seen other) {
            size = other.size;
            for (int n = 0; n < MOST_SEEN; n++) {
                who[n] = other.who[n];
                before[n] = other.before[n];
                by[n] = other.by[n];
                to[n] = other.to[n];
            }
        }

        long digestOn(long start) {
            long h = start;
            for (int n = 0; n < size; n++) {
                h = 31 * h + who[n];
                h = 31 * h + before[n];
                h = 31 * h + by[n];
                h = 31 * h + to[n];
            }
            return h;
        }
    }

    /** All that an IMAGE keeps. */
    private static final class Game {
        final Board board = new Board();
        final History history = new History();
        final Seen notes = new Seen();
        final Seen marks = new Seen();

        void dropPast() {
            history.empty();
            notes.empty();
            marks.empty();
        }

        void copy(Game other) {
            board.copy(other.board);
            history.copy(other.history);
            notes.copy(other.notes);
            marks.copy(other.marks);
        }

        long digestOn(long start) {
            long h = start;
            for (int k = 0; k < board.links; k++) {
                h = 31 * h + board.linkKind[k];
                h = 31 * h + board.linkFrom[k];
                h = 31 * h + board.linkTo[k];
                h = 31 * h + board.used[k];
            }
            for (int i = 0; i < board.players; i++) {
                h = 31 * h + board.playerKind[i];
                h = 31 * h + board.square[i];
                h = 31 * h + board.thrown[i];
            }
            return marks.digestOn(notes.digestOn(h));
        }
    }

    /** THE TEXT, and how it is read into a draft, so that a FAULT leaves the game as it is. */
    private static final class TextReader {
        private static final int END = 0, WORD = 1, NUMBER = 2, SEMICOLON = 3, OTHER = 4;
        private static final int MOST_NUMBERS = 9;

        int length = 0;
        final Board draft = new Board();
        private final byte[] bytes = new byte[MOST_TEXT];
        private final Step step = new Step();
        private int token = END;
        private int tokenStart = 0;
        private int tokenEnd = 0;
        private int number = 0;

        int append(int c) {
            if (length < MOST_TEXT) {
                bytes[length] = (byte) c;
                length++;
            }
            return length;
        }

        int empty() {
            int had = length;
            length = 0;
            return had;
        }

        /** Reading stops at the TOKEN that can not stand there; at the end that is the length. */
        int fault() {
            return tokenStart;
        }

        /** How many ITEMS; NONE: there is a FAULT. */
        int readItems() {
            tokenEnd = 0;
            nextToken();
            if (!boardItem()) {
                return NONE;
            }
            nextToken();
            int items = 1;
            while (token != END && items <= MOST_TEXT) {
                if (!laterItem()) {
                    return NONE;
                }
                nextToken();
                items++;
            }
            return items;
        }

        private boolean boardItem() {
            if (!isWord("board") || !nextNumber(LEAST_LENGTH, MOST_LENGTH)) {
                return false;
            }
            int squares = number;
            if (!nextNumber(LEAST_SIDES, MOST_SIDES)) {
                return false;
            }
            draft.start(squares, number);
            return nextSemicolon();
        }

        private boolean laterItem() {
            if (isWord("link")) {
                return linkItem();
            }
            if (isWord("player")) {
                return playerItem();
            }
            if (isWord("set")) {
                return setItem();
            }
            return isWord("throw") && throwItem();
        }

        private boolean linkItem() {
            if (draft.links >= MOST_LINKS || !nextNumber(0, KINDS - 1)) {
                return false;
            }
            int kind = number;
            if (!nextNumber(1, draft.length - 1) || draft.linkOn(number) != NONE) {
                return false;
            }
            int a = number;
            if (!nextNumber(0, draft.length) || number == a) {
                return false;
            }
            draft.addLink(kind, a, number);
            return nextSemicolon();
        }

        private boolean playerItem() {
            if (draft.players >= MOST_PLAYERS || !nextNumber(0, KINDS - 1)) {
                return false;
            }
            draft.addPlayer(number);
            return nextSemicolon();
        }

        private boolean setItem() {
            if (!nextNumber(0, draft.players - 1)) {
                return false;
            }
            int i = number;
            if (!nextNumber(0, draft.length)) {
                return false;
            }
            draft.square[i] = number;
            return nextSemicolon();
        }

        private boolean throwItem() {
            if (!nextNumber(0, draft.players - 1)) {
                return false;
            }
            int i = number;
            for (int n = 0; n < MOST_NUMBERS; n++) {
                nextToken();
                if (n > 0 && token == SEMICOLON) {
                    return true;
                }
                if (!isNumber(1, draft.sides) || draft.isHome(i)) {
                    return false;
                }
                draft.move(i, number, step);
            }
            return nextSemicolon();
        }

        private boolean nextNumber(int least, int most) {
            nextToken();
            return isNumber(least, most);
        }

        private boolean isNumber(int least, int most) {
            return token == NUMBER && within(number, least, most);
        }

        private boolean nextSemicolon() {
            nextToken();
            return token == SEMICOLON;
        }

        private boolean isWord(String word) {
            if (token != WORD || tokenEnd - tokenStart != word.length()) {
                return false;
            }
            for (int n = 0; n < word.length(); n++) {
                if (byteAt(tokenStart + n) != word.charAt(n)) {
                    return false;
                }
            }
            return true;
        }

        private void nextToken() {
            tokenStart = runEnd(tokenEnd, ' ', ' ');
            int letters = runEnd(tokenStart, 'a', 'z') - tokenStart;
            int figures = runEnd(tokenStart, '0', '9') - tokenStart;
            if (tokenStart >= length) {
                tokenEnd = tokenStart;
                token = END;
            } else if (letters > 0) {
                tokenEnd = tokenStart + letters;
                token = WORD;
            } else if (figures > 0) {
                tokenEnd = tokenStart + figures;
                token = figures <= 2 ? NUMBER : OTHER;
                number = valueOf(figures);
            } else {
                tokenEnd = tokenStart + 1;
                token = byteAt(tokenStart) == ';' ? SEMICOLON : OTHER;
            }
        }

        private int valueOf(int figures) {
            int first = byteAt(tokenStart) - '0';
            return figures == 1 ? first : 10 * first + byteAt(tokenStart + 1) - '0';
        }

        private int runEnd(int place, int least, int most) {
            int end = place;
            while (end < length && byteAt(end) >= least && byteAt(end) <= most) {
                end++;
            }
            return end;
        }

        private int byteAt(int place) {
            return place >= 0 && place < MOST_TEXT ? bytes[place] : NONE;
        }
    }

    /** What may come; it throws on a board of its own, so that nothing is changed by asking. */
    private static final class Outlook {
        private final Board board = new Board();
        private final Step[] steps = History.manySteps(MOST_DEPTH);
        private final int[] rowsOn = new int[MOST_LENGTH + 1];
        private final int[] row = new int[MOST_DEPTH];
        private final int[] gainA = new int[MOST_SIDES * MOST_SIDES];
        private final int[] gainB = new int[MOST_SIDES * MOST_SIDES];
        int best = NONE;
        int bestRows = NONE;

        /** How many throws; NONE: none of the rows has one HOME. The row is kept. */
        int fewest(Board now, int i) {
            board.copy(now);
            for (int n = 0; n <= MOST_DEPTH; n++) {
                if (findRow(this, i, 0, n)) {
                    return n;
                }
            }
            return NONE;
        }

        int rowAt(int k) {
            return within(k, 0, MOST_DEPTH - 1) ? row[k] : NONE;
        }

        // What calls itself is static, as rule 8 of LANGUAGE.md has it, so the Outlook is told to it.
        private static boolean findRow(Outlook o, int i, int depth, int n) {
            if (o.board.isHome(i)) {
                return depth == n;
            }
            if (depth >= n || depth >= MOST_DEPTH) {
                return false;
            }
            for (int r = 1; r <= o.board.sides; r++) {
                o.row[depth] = r;
                o.board.move(i, r, o.steps[depth]);
                boolean found = findRow(o, i, depth + 1, n);
                o.board.takeBack(o.steps[depth]);
                if (found) {
                    return true;
                }
            }
            return false;
        }

        /** For each SQUARE: how many rows of n throws have one there behind them. */
        void spread(Board now, int i, int n) {
            board.copy(now);
            spreadFrom(i, board.square[i], n);
        }

        int rowsHome() {
            return within(board.length, 0, MOST_LENGTH) ? rowsOn[board.length] : 0;
        }

        long sumOfSquares() {
            long sum = 0;
            for (int p = 0; p <= MOST_LENGTH; p++) {
                sum += (long) p * rowsOn[p];
            }
            return sum;
        }

        int unlikeSquares() {
            int many = 0;
            for (int p = 0; p <= MOST_LENGTH; p++) {
                if (rowsOn[p] > 0) {
                    many++;
                }
            }
            return many;
        }

        int leastSquare() {
            for (int p = 0; p <= MOST_LENGTH; p++) {
                if (rowsOn[p] > 0) {
                    return p;
                }
            }
            return NONE;
        }

        int greatestSquare() {
            for (int p = MOST_LENGTH; p >= 0; p--) {
                if (rowsOn[p] > 0) {
                    return p;
                }
            }
            return NONE;
        }

        void findBestSquare(Board now, int i, int n) {
            board.copy(now);
            best = NONE;
            bestRows = NONE;
            for (int p = 0; p < board.length; p++) {
                spreadFrom(i, p, n);
                if (rowsHome() >= bestRows) {
                    best = p;
                    bestRows = rowsHome();
                }
            }
        }

        void findWorstLink(Board now, int i, int n) {
            board.copy(now);
            best = NONE;
            bestRows = NONE;
            for (int k = 0; k < board.links; k++) {
                int taken = board.linkFrom[k];
                // NONE is a SQUARE nobody comes to; the numbers of the other LINKS stay.
                board.linkFrom[k] = NONE;
                spreadFrom(i, board.square[i], n);
                board.linkFrom[k] = taken;
                if (rowsHome() > bestRows) {
                    best = k;
                    bestRows = rowsHome();
                }
            }
        }

        private void spreadFrom(int i, int p, int n) {
            for (int q = 0; q <= MOST_LENGTH; q++) {
                rowsOn[q] = 0;
            }
            board.square[i] = p;
            if (n <= 0 || board.isHome(i)) {
                addRows(p, n);
            } else {
                spreadOn(this, i, 0, n);
            }
        }

        private static void spreadOn(Outlook o, int i, int depth, int n) {
            if (depth >= MOST_DEPTH) {
                return;
            }
            for (int r = 1; r <= o.board.sides; r++) {
                int p = o.board.landing(i, r);
                if (depth + 1 >= n || p == o.board.length) {
                    o.addRows(p, n - depth - 1);
                } else {
                    o.board.move(i, r, o.steps[depth]);
                    spreadOn(o, i, depth + 1, n);
                    o.board.takeBack(o.steps[depth]);
                }
            }
        }

        // One who is HOME throws no more: all rows of the throws that are left end there.
        private void addRows(int p, int throwsLeft) {
            if (within(p, 0, MOST_LENGTH)) {
                rowsOn[p] += power(board.sides, throwsLeft);
            }
        }

        int rowsAhead(Board now, int a, int b, int n) {
            board.copy(now);
            return rowsAheadOn(this, a, b, 0, 2 * n);
        }

        private static int rowsAheadOn(Outlook o, int a, int b, int turn, int turns) {
            if (turn >= turns || turn >= MOST_DEPTH) {
                return o.board.square[a] > o.board.square[b] ? 1 : 0;
            }
            int i = turn % 2 == 0 ? a : b;
            if (o.board.isHome(i)) {
                return o.board.sides * rowsAheadOn(o, a, b, turn + 1, turns);
            }
            int rows = 0;
            for (int r = 1; r <= o.board.sides; r++) {
                o.board.move(i, r, o.steps[turn]);
                rows += rowsAheadOn(o, a, b, turn + 1, turns);
                o.board.takeBack(o.steps[turn]);
            }
            return rows;
        }

        /** What a and b get for each pair of throws. */
        void weighPairs(Board now, int a, int b) {
            board.copy(now);
            for (int i = 1; i <= board.sides; i++) {
                moveUnlessHome(a, i, steps[0]);
                for (int j = 1; j <= board.sides; j++) {
                    moveUnlessHome(b, j, steps[1]);
                    gainA[pairAt(i, j)] = gain(a, b, i == j);
                    gainB[pairAt(i, j)] = gain(b, a, i == j);
                    board.takeBack(steps[1]);
                }
                board.takeBack(steps[0]);
            }
        }

        int restingPairs() {
            int many = 0;
            for (int i = 1; i <= board.sides; i++) {
                for (int j = 1; j <= board.sides; j++) {
                    if (rests(i, j)) {
                        many++;
                    }
                }
            }
            return many;
        }

        int restingPair(int k) {
            int passed = 0;
            for (int i = 1; i <= board.sides; i++) {
                for (int j = 1; j <= board.sides; j++) {
                    if (rests(i, j)) {
                        if (passed == k) {
                            return 10 * i + j;
                        }
                        passed++;
                    }
                }
            }
            return NONE;
        }

        private void moveUnlessHome(int i, int r, Step was) {
            if (board.isHome(i)) {
                board.remember(i, was);
            } else {
                board.move(i, r, was);
            }
        }

        private int gain(int one, int other, boolean sameNamed) {
            int sum = board.isHome(one) ? 10 : 0;
            if (board.square[one] > board.square[other]) {
                sum++;
            }
            return sameNamed ? sum - 3 : sum;
        }

        private boolean rests(int i, int j) {
            for (int r = 1; r <= board.sides; r++) {
                if (gainA[pairAt(r, j)] > gainA[pairAt(i, j)] || gainB[pairAt(i, r)] > gainB[pairAt(i, j)]) {
                    return false;
                }
            }
            return true;
        }

        private static int pairAt(int i, int j) {
            boolean told = within(i, 1, MOST_SIDES) && within(j, 1, MOST_SIDES);
            return told ? (i - 1) * MOST_SIDES + j - 1 : 0;
        }

        int homesBySeed(Board now, int seed, int n) {
            board.copy(now);
            long x = seed;
            for (int turn = 0; turn < n; turn++) {
                x = (x * 1103515245L + 12345L) % 2147483648L;
                int i = leftOver(x / 65536L, 4);
                if (within(i, 0, board.players - 1)) {
                    moveUnlessHome(i, leftOver(x / 1048576L, board.sides) + 1, steps[0]);
                }
            }
            return board.homes();
        }
    }

    /** Which KINDS fit what was seen, and which look tells most of them apart. */
    private static final class Guess {
        private final int[] ends = new int[KINDS];

        int linkKinds(Board board, Seen notes, int k) {
            int bits = 0;
            for (int kind = 0; kind < KINDS; kind++) {
                if (fitsNotes(board, notes, k, kind)) {
                    bits |= 1 << kind;
                }
            }
            return bits;
        }

        private boolean fitsNotes(Board board, Seen notes, int k, int kind) {
            for (int n = 0; n < notes.size; n++) {
                if (notes.who[n] == k && notes.to[n] != lead(board, k, kind, notes.before[n], notes.by[n])) {
                    return false;
                }
            }
            return true;
        }

        private static int lead(Board board, int k, int kind, int u, int r) {
            return LinkKinds.square(kind, board.linkFrom[k], board.linkTo[k], u, r, board.length);
        }

        int bestLook(Board board, Seen notes, int k) {
            int bits = linkKinds(board, notes, k);
            int best = NONE;
            int fewest = KINDS + 1;
            for (int u = 0; u <= 3 && bits != 0; u++) {
                for (int r = 1; r <= 6; r++) {
                    for (int kind = 0; kind < KINDS; kind++) {
                        ends[kind] = lead(board, k, kind, u, r);
                    }
                    int alike = mostAlike(bits);
                    if (alike < fewest) {
                        fewest = alike;
                        best = 10 * u + r;
                    }
                }
            }
            return best;
        }

        int playerKinds(Board board, Seen marks, int i) {
            int bits = 0;
            for (int kind = 0; kind < KINDS; kind++) {
                if (fitsMarks(board, marks, i, kind)) {
                    bits |= 1 << kind;
                }
            }
            return bits;
        }

        private static boolean fitsMarks(Board board, Seen marks, int i, int kind) {
            for (int n = 0; n < marks.size; n++) {
                int p = PlayerKinds.square(kind, marks.before[n], marks.by[n], board.length);
                if (marks.who[n] == i && marks.to[n] != p) {
                    return false;
                }
            }
            return true;
        }

        int bestAsk(Board board, Seen marks, int i) {
            int bits = playerKinds(board, marks, i);
            int best = NONE;
            int fewest = KINDS + 1;
            for (int p = 0; p < board.length && bits != 0; p++) {
                for (int r = 1; r <= 6; r++) {
                    for (int kind = 0; kind < KINDS; kind++) {
                        ends[kind] = PlayerKinds.square(kind, p, r, board.length);
                    }
                    int alike = mostAlike(bits);
                    if (alike < fewest) {
                        fewest = alike;
                        best = 100 * p + r;
                    }
                }
            }
            return best;
        }

        private int mostAlike(int bits) {
            int most = 0;
            for (int kind = 0; kind < KINDS; kind++) {
                if ((bits >> kind & 1) == 1) {
                    most = Math.max(most, alikeTo(kind, bits));
                }
            }
            return most;
        }

        private int alikeTo(int kind, int bits) {
            int many = 0;
            for (int other = 0; other < KINDS; other++) {
                if ((bits >> other & 1) == 1 && ends[other] == ends[kind]) {
                    many++;
                }
            }
            return many;
        }
    }
}
