import java.lang.management.ManagementFactory;

/** All calls of one run share one room: what an object takes is small, and its dearest calls take nothing more. */
public final class RoomTest {
    private static final int MOST_FOR_AN_OBJECT = 120_000;
    private static final int MOST_FOR_CALLS = 20_000;

    public static void main(String[] args) {
        com.sun.management.ThreadMXBean bean = (com.sun.management.ThreadMXBean) ManagementFactory.getThreadMXBean();
        run(Checks.told(text()));
        long start = bean.getCurrentThreadAllocatedBytes();
        StoutShelf x = new StoutShelf();
        long made = bean.getCurrentThreadAllocatedBytes() - start;
        Checks.due("an object takes " + made + " bytes", made <= MOST_FOR_AN_OBJECT ? 1 : 0, 1);
        Checks.due("library", Checks.tell(x, text()), 0);
        start = bean.getCurrentThreadAllocatedBytes();
        run(x);
        long used = bean.getCurrentThreadAllocatedBytes() - start;
        Checks.due("its calls take " + used + " bytes", used <= MOST_FOR_CALLS ? 1 : 0, 1);
        Checks.end();
    }

    private static String text() {
        StringBuilder text = new StringBuilder("reader;reader;reader;reader;reader;");
        for (int b = 0; b < 12; b++) {
            text.append("book ").append(99 - 7 * b).append(b < 8 ? " of " + b % 5 : "").append(";");
        }
        return text.append("wants 0 11;wants 1 10;law leaves+blanks/2;").toString();
    }

    private static void run(StoutShelf x) {
        for (int i = 0; i < 30; i++) {
            x.together(0, 1, 11);
            x.week();
            x.event(i % 5, i % 12, (i + 1) % 12);
            x.orders();
            x.knot();
            x.there(3, 0);
            x.fire(2);
            x.bind(0, 0);
            x.lost(9, 0);
            x.worth(0);
            x.image();
            x.exchange(0, 0, 8);
            x.undo();
            x.restore();
            x.hands(0, -1);
        }
    }
}
