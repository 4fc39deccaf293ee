import java.lang.reflect.Method;
import java.nio.file.Files;
import java.nio.file.Path;
import java.util.ArrayList;
import java.util.Arrays;
import java.util.Comparator;
import java.util.List;
import java.util.function.IntToLongFunction;
import java.util.function.Supplier;
import java.util.function.ToLongFunction;

/**
 * Tests of the document's edges. A test is a method promiseNN_.. that says which words it is about;
 * here they are run, and here is what they have in common.
 */
final class Edges {
    static final int NONE = SnakeLadders.NONE, BAD = SnakeLadders.BAD, NO = SnakeLadders.NO, FULL = SnakeLadders.FULL;

    interface Numbered {
        long call(SnakeLadders x, int n);
    }

    private Edges() {
    }

    // ---- running

    /** Runs all tests of a class; each promise from the first to the last must have one. */
    static void run(Class<?> tests, int first, int last) throws Exception {
        Check all = new Check(tests.getSimpleName());
        String document = document();
        boolean[] tested = new boolean[100];
        int many = 0;
        Method[] methods = tests.getDeclaredMethods();
        Arrays.sort(methods, Comparator.comparing(Method::getName));
        for (Method test : methods) {
            if (!test.getName().matches("promise[0-9][0-9]_.*")) {
                continue;
            }
            many++;
            tested[Integer.parseInt(test.getName().substring(7, 9))] = true;
            Check check = new Check(test.getName());
            test.setAccessible(true);
            test.invoke(null, check);
            all.holds(test.getName() + " says a thing and looks at it", check.looked() && quotes(test, document));
            all.take(check);
        }
        for (int promise = first; promise <= last; promise++) {
            all.holds("promise " + promise + " has a test of its edges", tested[promise]);
        }
        System.out.println(tests.getSimpleName() + ": " + many + " tests");
        all.end();
    }

    private static String document() throws Exception {
        Path path = Path.of(System.getProperty("document", "../shared/DOC.md"));
        return Files.isReadable(path) ? Files.readString(path).replace("`", "") : null;
    }

    private static boolean quotes(Method test, String document) {
        Says says = test.getAnnotation(Says.class);
        if (says == null || says.value().length == 0) {
            return false;
        }
        for (String words : says.value()) {
            if (document != null && !document.contains(words)) {
                System.out.println(test.getName() + ": the document does not say '" + words + "'");
                return false;
            }
        }
        return true;
    }

    // ---- boards to begin with

    static SnakeLadders on(int l, int d, int... kinds) {
        SnakeLadders x = new SnakeLadders();
        x.board(l, d);
        for (int kind : kinds) {
            x.player(kind);
        }
        return x;
    }

    static SnakeLadders typed(SnakeLadders x, String text) {
        x.clear();
        for (int n = 0; n < text.length(); n++) {
            x.type(text.charAt(n));
        }
        return x;
    }

    /** Something of everything, nothing full: 3 players (1 is HOME), 2 links, 4 moves to undo, image 0 kept. */
    static SnakeLadders lively() {
        SnakeLadders x = on(12, 4, 0, 1, 4);
        x.link(1, 3, 8);
        x.link(4, 5, 2);
        typed(x, "board 11 3;player 2;throw 0 3;");
        x.note(0, 0, 1, 8);
        x.mark(1, 2, 3, 5);
        x.rolls(0, 3);
        x.image(0);
        x.sets(1, 12);
        x.rolls(2, 3);
        x.sets(0, 9);
        x.mean(0, 1);
        return x;
    }

    /** All full: 4 players (3 is HOME), 6 links, 6 notes, 6 marks, 150 bytes, 8 moves to undo, both images kept. */
    static SnakeLadders crowded() {
        SnakeLadders x = on(40, 6, 0, 1, 2, 3);
        for (int k = 0; k < 6; k++) {
            x.link(k, k + 1, 30 + k);
            x.note(k, k, 6, 33);
            x.mark(k % 4, k, 6, k + 3);
        }
        String text = "board 10 2;player 5;throw 0 1 2 1;";
        typed(x, text + " ".repeat(150 - text.length()));
        x.rolls(0, 1);
        x.image(1);
        for (int n = 0; n < 3; n++) {
            x.rolls(1, 2);
            x.sets(2, n + 7);
            x.rolls(0, 1);
        }
        x.sets(3, 40);
        x.image(0);
        x.home(2, 2);
        return x;
    }

    // ---- what a refused call leaves as it was

    /** All that can be seen of an object but its status; asking for it uses the object up. */
    static List<Long> print(SnakeLadders x) {
        List<Long> all = new ArrayList<>();
        addState(x, all);
        for (int i = 0; i < 2; i++) {
            all.add((long) x.from(i));
            addState(x, all);
        }
        all.add((long) x.read());
        addState(x, all);
        return all;
    }

    private static void addState(SnakeLadders x, List<Long> all) {
        all.add(x.digest());
        all.add(x.part(0));
        all.add(x.part(1));
        for (int n = 0; n < 9; n++) {
            all.add((long) x.undo());
            all.add(x.digest());
        }
    }

    static void refused(Check check, Supplier<SnakeLadders> start, String call, ToLongFunction<SnakeLadders> made,
            long want, int reason) {
        SnakeLadders x = start.get();
        SnakeLadders twin = start.get();
        check.due(call, made.applyAsLong(x), want);
        for (int what = 0; what < 3; what++) {
            check.due(call + ", then status(" + what + ")", x.status(what), twin.status(what) + (what == reason ? 1 : 0));
        }
        check.holds(call + ", then all is as it was", print(x).equals(print(twin)));
    }

    static void bad(Check check, Supplier<SnakeLadders> start, String call, ToLongFunction<SnakeLadders> made) {
        refused(check, start, call, made, BAD, 0);
    }

    static void badByTen(Check check, Supplier<SnakeLadders> start, String call, ToLongFunction<SnakeLadders> made) {
        refused(check, start, call, made, -10, 0);
    }

    static void no(Check check, Supplier<SnakeLadders> start, String call, ToLongFunction<SnakeLadders> made) {
        refused(check, start, call, made, NO, 1);
    }

    static void full(Check check, Supplier<SnakeLadders> start, String call, ToLongFunction<SnakeLadders> made) {
        refused(check, start, call, made, FULL, 2);
    }

    /** An answer that is no refusal of a call that changes nothing. */
    static void asked(Check check, Supplier<SnakeLadders> start, String call, ToLongFunction<SnakeLadders> made, long want) {
        refused(check, start, call, made, want, -1);
    }

    // ---- counts

    /** What count(0), count(1), .. answer. */
    static void counts(Check check, SnakeLadders x, int... due) {
        for (int what = 0; what < due.length; what++) {
            check.due("count(" + what + ")", x.count(what), due[what]);
        }
    }

    /** All counts are those of another one, but for one that may be another. */
    static void countsStay(Check check, SnakeLadders x, SnakeLadders twin, int but) {
        for (int what = 0; what <= 10; what++) {
            if (what != but) {
                check.due("count(" + what + ")", x.count(what), twin.count(what));
            }
        }
    }

    // ---- bounds

    /** The first and the last number are taken; those beside them, and those far off, are not (# is the number). */
    static void bounds(Check check, Supplier<SnakeLadders> start, String call, int least, int most, Numbered made,
            IntToLongFunction due) {
        for (int n : new int[] {least, most}) {
            check.due(call.replace("#", "" + n), made.call(start.get(), n), due.applyAsLong(n));
        }
        for (int n : new int[] {least - 1, most + 1, Integer.MIN_VALUE, Integer.MAX_VALUE}) {
            bad(check, start, call.replace("#", "" + n), x -> made.call(x, n));
        }
    }
}
