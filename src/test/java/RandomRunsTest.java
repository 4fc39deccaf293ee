import java.util.ArrayList;
import java.util.List;
import java.util.Random;

/** Runs of calls by seeds, told to the class and to the Model: every answer must be the same. */
public final class RandomRunsTest {
    private static final int RUNS = 4000;
    private static final int CALLS = 512;
    private static final int[] WILD = {Integer.MIN_VALUE, Integer.MAX_VALUE, -1, -2, -3, -10, 7, 41, 99, 128, 1000000};
    private static final String[] STEPS = {"rolls", "rolls", "rolls", "rolls", "rolls", "sets", "sets", "undo", "undo",
        "goes", "of", "about", "count", "status", "digest", "part"};
    private static final String[] BUILDS = {"link", "link", "player", "die", "image", "image", "from", "from", "board"};
    private static final String[] ASKS = {"few", "few", "home", "mean", "ahead", "without", "span", "choice", "choice",
        "evenings", "rather"};
    private static final String[] SIGHTS = {"note", "note", "note", "mark", "mark", "mark", "forget", "is", "look",
        "kinds", "ask"};

    private final Random random;
    private final SnakeLadders real = new SnakeLadders();
    private final Model model = new Model();
    private final List<String> told = new ArrayList<>();
    private boolean wrong = false;

    private RandomRunsTest(long seed) {
        random = new Random(seed);
    }

    public static void main(String[] args) {
        int failed = 0;
        long calls = 0;
        for (long seed = 1; seed <= RUNS; seed++) {
            RandomRunsTest run = new RandomRunsTest(seed);
            run.go(seed);
            calls += run.told.size();
            if (run.wrong && ++failed >= 3) {
                break;
            }
        }
        System.out.println("RandomRunsTest: " + calls + " calls, " + failed + " runs wrong");
        System.exit(failed == 0 ? 0 : 1);
    }

    private void go(long seed) {
        build();
        while (seed % 5 == 0 && told.size() < CALLS && !wrong) {
            text();
        }
        while (told.size() < CALLS && !wrong) {
            int pick = random.nextInt(1000);
            if (pick < 600) {
                tell(one(STEPS));
            } else if (pick < 640) {
                tell(one(BUILDS));
            } else if (pick < 642) {
                text();
            } else if (pick < 800) {
                tell(one(ASKS));
            } else if (pick < 995) {
                tell(one(SIGHTS));
            } else {
                build();
            }
        }
        if (wrong) {
            System.out.println("seed " + seed + ": " + String.join(" ", told));
        }
    }

    private String one(String[] names) {
        return names[random.nextInt(names.length)];
    }

    private void build() {
        if (random.nextInt(4) == 0) {
            text();
            return;
        }
        tell("board", 10 + random.nextInt(random.nextBoolean() ? 31 : 6), 2 + random.nextInt(5));
        for (int n = random.nextInt(9); n > 0; n--) {
            tell("link");
        }
        for (int n = random.nextInt(8) == 0 ? 0 : 1 + random.nextInt(5); n > 0; n--) {
            tell("player");
        }
    }

    private int l() {
        return real.count(0);
    }

    private int square() {
        return random.nextInt(l() + 1);
    }

    private int player() {
        return random.nextInt(20) == 0 ? random.nextInt(6) - 1 : random.nextInt(Math.max(1, real.count(3)));
    }

    private int linkNumber() {
        return random.nextInt(20) == 0 ? random.nextInt(8) - 1 : random.nextInt(Math.max(1, real.count(2)));
    }

    private int side() {
        return random.nextInt(20) == 0 ? random.nextInt(9) - 1 : 1 + random.nextInt(real.count(1));
    }

    private int upTo(int most) {
        return random.nextInt(25) == 0 ? (random.nextBoolean() ? -1 : most + 1) : random.nextInt(most + 1);
    }

    /** A dear call is told with few throws most of the time, as the Model writes all rows out. */
    private int throwsUpTo(int most) {
        return random.nextInt(6) == 0 ? upTo(most) : random.nextInt(Math.min(most, 2) + 1);
    }

    private void tell(String name) {
        int[] a = arguments(name);
        if (random.nextInt(60) == 0 && a.length > 0) {
            a[random.nextInt(a.length)] = WILD[random.nextInt(WILD.length)];
        }
        tell(name, a);
    }

    private int[] arguments(String name) {
        switch (name) {
            case "board": return new int[] {9 + random.nextInt(33), 1 + random.nextInt(7)};
            case "die": return new int[] {1 + random.nextInt(7)};
            case "link": return new int[] {upTo(5), square(), square()};
            case "player": return new int[] {upTo(5)};
            case "type": return new int[] {random.nextInt(130) - 1};
            case "rolls":
            case "goes": return new int[] {player(), side()};
            case "sets": return new int[] {player(), random.nextInt(3) == 0 ? upTo(l()) : l() - random.nextInt(8)};
            case "of": return new int[] {player(), upTo(2)};
            case "about": return new int[] {linkNumber(), upTo(3)};
            case "few": return new int[] {player(), random.nextInt(9) - 2};
            case "home":
            case "mean": return new int[] {player(), throwsUpTo(5)};
            case "ahead": return withPair(upTo(2));
            case "rather": return new int[] {player(), random.nextInt(12) == 0 ? upTo(4) : upTo(2), upTo(1)};
            case "without": return new int[] {player(), throwsUpTo(4), upTo(1)};
            case "span": return new int[] {player(), throwsUpTo(4), upTo(2)};
            case "note": return noteArguments();
            case "mark": return markArguments();
            case "forget":
            case "part":
            case "image":
            case "from": return new int[] {upTo(1)};
            case "is":
            case "look": return new int[] {linkNumber()};
            case "kinds":
            case "ask": return new int[] {player()};
            case "choice": return withPair(random.nextInt(8) - 2);
            case "evenings": return new int[] {upTo(999999), upTo(60)};
            case "status": return new int[] {upTo(2)};
            case "count": return new int[] {upTo(10)};
            default: return new int[0];
        }
    }

    private int[] withPair(int last) {
        int a = player();
        int b = random.nextInt(8) == 0 ? player() : (a + 1) % Math.max(2, real.count(3));
        return random.nextBoolean() ? new int[] {a, b, last} : new int[] {b, a, last};
    }

    /** Mostly what some kind would lead to, so that kinds stay. */
    private int[] noteArguments() {
        int k = linkNumber();
        int u = upTo(9);
        int r = upTo(6);
        int x = upTo(40);
        if (k >= 0 && k < real.count(2) && random.nextInt(5) > 0) {
            int to = real.about(k, 2);
            int[] likely = {to, real.about(k, 1), Math.max(0, to - 1), Math.min(l(), to + r), Math.max(0, to - 1 - r / 3)};
            x = likely[random.nextInt(likely.length)];
        }
        return new int[] {k, u, r, x};
    }

    private int[] markArguments() {
        int p = random.nextInt(4) == 0 ? upTo(40) : l() - 1 - random.nextInt(6);
        int r = upTo(6);
        int[] likely = {p + r, p, 2 * l() - p - r, p + 3, p + 2, l(), p + (r + 1) / 2};
        int x = random.nextInt(5) == 0 ? upTo(40) : likely[random.nextInt(likely.length)];
        return new int[] {player(), p, r, x};
    }

    private void text() {
        tell("clear", new int[0]);
        String text = random.nextInt(3) == 0 ? spoilt(items()) : items();
        for (int n = 0; n < text.length() && n < 152; n++) {
            tell("type", text.charAt(n));
        }
        tell("read", new int[0]);
    }

    private String items() {
        int squares = 10 + random.nextInt(31);
        int sides = 2 + random.nextInt(5);
        StringBuilder text = new StringBuilder("board " + squares + " " + sides + ";");
        int players = 0;
        for (int n = random.nextInt(14); n > 0; n--) {
            int pick = random.nextInt(8);
            if (pick < 3) {
                text.append("link " + random.nextInt(6) + " " + (1 + random.nextInt(squares - 1)) + " "
                    + random.nextInt(squares + 1));
            } else if (pick < 5 || players == 0) {
                text.append("player " + random.nextInt(6));
                players++;
            } else if (pick == 5) {
                text.append("set " + random.nextInt(players) + " " + random.nextInt(squares + 1));
            } else {
                text.append("throw " + random.nextInt(players));
                for (int r = random.nextInt(10); r >= 0; r--) {
                    text.append(" " + (1 + random.nextInt(sides)));
                }
            }
            text.append(random.nextInt(5) == 0 ? " ; " : ";");
        }
        return text.toString();
    }

    private String spoilt(String text) {
        StringBuilder spoilt = new StringBuilder(text);
        for (int n = 1 + random.nextInt(2); n > 0 && spoilt.length() > 0; n--) {
            int place = random.nextInt(spoilt.length());
            String signs = "; 0123456789boardlinkplayersetthrow-X\t\n\0\177";
            char sign = signs.charAt(random.nextInt(signs.length()));
            int pick = random.nextInt(4);
            if (pick == 0) {
                spoilt.deleteCharAt(place);
            } else if (pick == 1) {
                spoilt.insert(place, sign);
            } else if (pick == 2) {
                spoilt.setCharAt(place, sign);
            } else {
                spoilt.setLength(place);
            }
        }
        return spoilt.toString();
    }

    private void tell(String name, int... a) {
        if (wrong) {
            return;
        }
        StringBuilder call = new StringBuilder(name).append('(');
        for (int n = 0; n < a.length; n++) {
            call.append(n == 0 ? "" : ", ").append(a[n]);
        }
        told.add(call.append(')').toString());
        compare(call.toString(), Calls.call(real, name, a), model.call(name, a));
        if (!wrong && told.size() % 8 == 0) {
            compare(call + ", then digest()", real.digest(), model.call("digest", a));
            for (int what = 0; what < 3; what++) {
                compare(call + ", then status", real.status(what), model.call("status", new int[] {what}));
            }
        }
    }

    private void compare(String call, long got, long want) {
        if (got != want) {
            wrong = true;
            System.out.println(call + " answered " + got + ", the model " + want);
        }
    }
}
