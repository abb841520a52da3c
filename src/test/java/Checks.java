import java.util.concurrent.Callable;

/** What the hand-written tests share: answers that are due, refusals that are due, and how many were not. */
abstract class Checks {
    static final int NONE = RuledCalendar.NONE;
    static final int FIRST = 19000101;
    static final int LAST = 21991231;
    static final Class<?> ARGUMENT = IllegalArgumentException.class;
    static final Class<?> INDEX = IndexOutOfBoundsException.class;
    static final int[] NO_DATES = {0, -1, 1, 18991231, 22000101, 19000229, 20230229, 21000229, 20240230,
        20240431, 20240100, 20240132, 20240001, 20241301, 21991232, 19000100, 202401011, -20240101,
        Integer.MIN_VALUE, Integer.MAX_VALUE};
    /** Numbers that are never a thing's; 12 things have 0 to 11. */
    static final int[] NO_THINGS = {-1, 12, Integer.MIN_VALUE, Integer.MAX_VALUE};

    private static int wrong = 0;
    private static int checks = 0;
    private static int sentences = 0;
    private static String sentence = "";

    static void due(String what, Object got, Object want) {
        checks++;
        if (!want.equals(got)) {
            wrong++;
            System.out.println(sentence + ": " + what + " answered " + got + ", due is " + want);
        }
    }

    static void refused(String what, Class<?> kind, Callable<?> call) {
        due(what, answer(call), "throws " + kind.getSimpleName());
    }

    /** A call's answer, or what it throws. */
    static String answer(Callable<?> call) {
        try {
            return String.valueOf(call.call());
        } catch (Exception e) {
            return "throws " + e.getClass().getSimpleName();
        }
    }

    /** drop() as a call that answers something. */
    static String drop(RuledCalendar x, int thing) {
        x.drop(thing);
        return "nothing";
    }

    /** Runs the test of one sentence of the document; a test that asks nothing is wrong too. */
    static void sentence(String words, Runnable test) {
        sentence = words;
        sentences++;
        int before = checks;
        try {
            test.run();
        } catch (RuntimeException e) {
            due("the test", e, "nothing thrown");
        }
        if (checks == before) {
            due("the number of checks", 0, "one at least");
        }
    }

    /** The last line of a test's main method: what came out of it. */
    static void end() {
        System.out.println(sentences + " sentences, " + checks + " answers, " + wrong + " not as due");
        if (wrong != 0) {
            System.exit(1);
        }
    }

    static void feed(RuledCalendar x, String text) {
        for (int at = 0; at < text.length(); at += 8) {
            int n = Math.min(8, text.length() - at);
            long bytes = 0;
            for (int i = 0; i < n; i++) {
                bytes |= (long) text.charAt(at + i) << 8 * i;
            }
            x.feed(n, bytes);
        }
    }

    static void write(RuledCalendar x, String text) {
        x.wipe();
        feed(x, text);
    }

    static int make(RuledCalendar x, String rule, int start) {
        write(x, rule);
        return x.thing(start);
    }

    static RuledCalendar with(String rule, int start) {
        RuledCalendar x = new RuledCalendar();
        due("thing() of " + rule, make(x, rule, start), 0);
        return x;
    }

    /** The first dates of a thing with a rule; 0 behind them says that there are no more. */
    static void dates(String rule, int start, int... want) {
        RuledCalendar x = with(rule, start);
        for (int k = 0; k < want.length; k++) {
            due(rule + " from " + start + ", date " + k, x.date(0, k), want[k] == 0 ? NONE : want[k]);
        }
    }

    static void times(String rule, int start, int want) {
        due(rule + " from " + start + ", how often", with(rule, start).times(0, FIRST, LAST), want);
    }

    static void fault(String text, int kind, int place) {
        RuledCalendar x = new RuledCalendar();
        due("'" + text + "' thing", make(x, text, 20240101), kind == 0 ? 0 : NONE);
        due("'" + text + "' fault", x.fault(), kind);
        due("'" + text + "' place", x.place(), place);
    }

    static void noFault(String text) {
        fault(text, 0, NONE);
    }

    /** A text of so many bytes: zeros stand before its last number. */
    static String stretched(String begin, int number, int length) {
        StringBuilder text = new StringBuilder(begin);
        String end = String.valueOf(number);
        while (text.length() + end.length() < length) {
            text.append('0');
        }
        return text.append(end).toString();
    }
}
