import java.lang.management.ManagementFactory;

/** The dearest runs of 512 calls stay far within the room: rows are made once and used again. */
public final class RoomTest {
    private static final long MOST_BYTES = 1 << 20;

    private static long allocated() {
        com.sun.management.ThreadMXBean threads =
                (com.sun.management.ThreadMXBean) ManagementFactory.getThreadMXBean();
        return threads.getThreadAllocatedBytes(Thread.currentThread().getId());
    }

    private static void feed(RuledCalendar x, String rule) {
        x.wipe();
        for (int i = 0; i < rule.length(); i++) {
            x.feed(1, rule.charAt(i));
        }
    }

    private static void run(String rule) {
        RuledCalendar x = new RuledCalendar();
        feed(x, rule);
        for (int i = 0; i < 12; i++) {
            x.thing(19000101);
        }
        for (int i = 0; i < 40; i++) {
            x.drop(i % 12);
            x.thing(19000101 + i % 28);
            x.except(i % 12, 20240101 + i % 28, true);
            x.besides(i % 12, 20240201 + i % 28, true);
            x.list(19000101, 21991231);
            x.busiest(19000101, 21991231);
            x.quiet(19000101, 1000);
            x.date(i % 12, 109572);
            x.next(i % 12, 20240101);
            x.times(i % 12, 19000101, 21991231);
        }
    }

    public static void main(String[] args) {
        String[] rules = {"FREQ=DAILY", "FREQ=WEEKLY;BYDAY=MO,TU,WE;BYSETPOS=-1,1",
            "FREQ=YEARLY;BYDAY=MO,TU,WE,TH,FR,SA,SU;BYSETPOS=366,1", "FREQ=YEARLY;BYDAY=1MO,-53TU"};
        run(rules[0]);
        int wrong = 0;
        for (String rule : rules) {
            long before = allocated();
            run(rule);
            long used = allocated() - before;
            if (used > MOST_BYTES) {
                wrong++;
                System.out.println(rule + " took " + used + " bytes, due are at most " + MOST_BYTES);
            }
        }
        System.out.println(wrong == 0 ? "all runs stay in the room" : wrong + " runs do not");
        if (wrong != 0) {
            System.exit(1);
        }
    }
}
