import java.lang.management.ManagementFactory;

/**
 * All calls of one run live in one room, so objects are made in the constructor alone: the dearest calls,
 * made over and over, may leave nothing behind.
 */
public final class RoomTest {
    private static final Check check = new Check("RoomTest");
    private static final com.sun.management.ThreadMXBean THREADS =
        (com.sun.management.ThreadMXBean) ManagementFactory.getThreadMXBean();

    public static void main(String[] args) {
        made();
        calls(new SnakeLadders());
        long before = bytes();
        SnakeLadders x = new SnakeLadders();
        long object = bytes() - before;
        check.holds("one object takes " + object + " bytes", object < 20000);
        before = bytes();
        for (int n = 0; n < 20; n++) {
            calls(x);
        }
        long taken = bytes() - before;
        check.holds("calls made " + taken + " bytes", taken < 2000);
        check.end();
    }

    /** The first reading makes objects of its own. */
    private static void made() {
        for (int n = 0; n < 100; n++) {
            bytes();
        }
    }

    private static long bytes() {
        return THREADS.getThreadAllocatedBytes(Thread.currentThread().getId());
    }

    private static void calls(SnakeLadders x) {
        x.board(40, 6);
        for (int k = 0; k < 6; k++) {
            x.link(k, 2 + 6 * k, 39 - 5 * k);
        }
        for (int i = 0; i < 4; i++) {
            x.player(i);
        }
        String text = "board 20 6;player 0;throw 0 1 2 3;link 0 1 2;";
        for (int n = 0; n < text.length(); n++) {
            x.type(text.charAt(n));
        }
        for (int n = 0; n < 12; n++) {
            x.rolls(0, 1 + n % 6);
            x.note(n % 6, n % 10, 1 + n % 6, n);
            x.mark(n % 4, n, 1 + n % 6, n);
        }
        x.undo();
        x.goes(0, 1);
        x.few(0, 0);
        x.home(0, 5);
        x.mean(0, 5);
        x.ahead(0, 1, 2);
        x.rather(0, 4, 0);
        x.without(0, 4, 0);
        x.span(0, 4, 0);
        for (int i = 0; i < 4; i++) {
            x.is(i);
            x.look(i);
            x.kinds(i);
            x.ask(i);
        }
        x.choice(0, 1, 0);
        x.evenings(7, 60);
        x.image(0);
        x.read();
        x.clear();
        x.from(0);
        x.digest();
    }
}
