import java.time.LocalDate;
import java.util.ArrayList;
import java.util.Collections;
import java.util.List;
import java.util.Random;
import java.util.function.LongSupplier;

/** Random runs of calls, the answers of which must be those of NaiveCalendar. */
public final class RandomRunsTest {
    private static final String[] WEEKDAYS = {"MO", "TU", "WE", "TH", "FR", "SA", "SU"};
    private static final String[] FREQUENCIES = {"DAILY", "WEEKLY", "MONTHLY", "YEARLY"};
    private static final String NOISE = ";=,+-0123456789MOTUFREQDAILYxz \u0000\u00ff";

    private final Random random;
    private RuledCalendar real = new RuledCalendar();
    private NaiveCalendar naive = new NaiveCalendar();
    private final StringBuilder log = new StringBuilder();
    private int wrong = 0;
    private int fruitful = 0;

    private RandomRunsTest(long seed) {
        random = new Random(seed);
    }

    private static String answer(LongSupplier call) {
        try {
            return Long.toString(call.getAsLong());
        } catch (IllegalArgumentException e) {
            return "throws.IllegalArgumentException";
        } catch (IndexOutOfBoundsException e) {
            return "throws.IndexOutOfBoundsException";
        }
    }

    private String check(String call, LongSupplier ofReal, LongSupplier ofNaive) {
        String got = answer(ofReal);
        String want = answer(ofNaive);
        log.append(call).append(" -> ").append(got).append('\n');
        if (!got.equals(want)) {
            wrong++;
            System.out.println(call + " answered " + got + ", due is " + want + ", after\n" + log);
        }
        return got;
    }

    private int below(int n) {
        return random.nextInt(n);
    }

    private int signed(int most) {
        int value = 1 + below(most);
        return random.nextBoolean() ? value : -value;
    }

    private String many(java.util.function.Supplier<String> one) {
        StringBuilder all = new StringBuilder(one.get());
        for (int i = below(3) * below(4); i > 0; i--) {
            all.append(',').append(one.get());
        }
        return all.toString();
    }

    private int anyDate() {
        if (below(12) == 0) {
            int[] odd = {19000101, 21991231, 18991231, 22000101, 20240229, 20230229, 0, -1, 20241301, 20240431,
                19000229, 20000229, 20240100, 20240001, Integer.MIN_VALUE, Integer.MAX_VALUE, 21991230, -20240101};
            return odd[below(odd.length)];
        }
        int year = below(3) == 0 ? 1900 + below(300) : 2020 + below(10);
        if (below(12) == 0) {
            year = random.nextBoolean() ? 1900 : 2199;
        }
        LocalDate first = LocalDate.of(year, 1 + below(12), 1);
        return NaiveCalendar.number(first.plusDays(below(first.lengthOfMonth())));
    }

    private String rule() {
        List<String> parts = new ArrayList<>();
        parts.add("FREQ=" + FREQUENCIES[below(4)]);
        if (below(3) == 0) {
            parts.add("INTERVAL=" + (1 + below(below(4) == 0 ? 400 : 5)));
        }
        if (below(4) == 0) {
            parts.add("COUNT=" + (1 + below(below(2) == 0 ? 999 : 9)));
        } else if (below(4) == 0) {
            parts.add("UNTIL=" + Math.abs((long) anyDate()));
        }
        if (below(3) == 0) {
            parts.add("BYMONTH=" + many(() -> "" + (1 + below(12))));
        }
        if (below(4) == 0) {
            parts.add("BYMONTHDAY=" + many(() -> "" + signed(31)));
        }
        if (below(2) == 0) {
            int most = below(3) == 0 ? 53 : 5;
            boolean numbered = below(3) == 0;
            parts.add("BYDAY=" + many(() -> (numbered && below(3) > 0 ? "" + signed(most) : "") + WEEKDAYS[below(7)]));
        }
        if (below(4) == 0) {
            int most = below(3) == 0 ? 366 : 4;
            parts.add("BYSETPOS=" + many(() -> "" + signed(most)));
        }
        Collections.shuffle(parts, random);
        return spoiled(String.join(";", parts));
    }

    private String spoiled(String rule) {
        StringBuilder text = new StringBuilder(rule);
        for (int i = below(3) == 0 ? 1 + below(2) : 0; i > 0; i--) {
            int at = below(text.length());
            char noise = NOISE.charAt(below(NOISE.length()));
            int how = below(4);
            if (how == 0 && text.length() > 1) {
                text.deleteCharAt(at);
            } else if (how == 1) {
                text.insert(at, noise);
            } else if (how == 2) {
                text.setCharAt(at, noise);
            } else {
                text.setLength(1 + at);
            }
        }
        return text.toString();
    }

    private void feedText(String text) {
        check("wipe()", () -> real.wipe(), () -> naive.wipe());
        for (int at = 0; at < text.length(); at += 8) {
            int n = Math.min(8, text.length() - at);
            long bytes = random.nextLong() << 56;
            for (int i = n - 1; i >= 0; i--) {
                int shift = 8 * i;
                bytes = bytes & ~(255L << shift) | (long) text.charAt(at + i) << shift;
            }
            long fed = bytes;
            check("feed " + text.substring(at, at + n), () -> real.feed(n, fed), () -> naive.feed(n, fed));
        }
    }

    private void newThing() {
        feedText(rule());
        int start = anyDate();
        String number = check("thing(" + start + ")", () -> real.thing(start), () -> naive.thing(start));
        check("fault()", () -> real.fault(), () -> naive.fault());
        check("place()", () -> real.place(), () -> naive.place());
        if (!number.startsWith("t") && !number.equals("-1")) {
            int i = Integer.parseInt(number);
            String times = check("times of all", () -> real.times(i, 19000101, 21991231),
                    () -> naive.times(i, 19000101, 21991231));
            fruitful += times.equals("0") ? 0 : 1;
            for (int k = 0; k < 4; k++) {
                int place = k < 2 ? k : below(400);
                check("date(" + i + ", " + place + ")", () -> real.date(i, place), () -> naive.date(i, place));
            }
        }
    }

    private static long bit(boolean is) {
        return is ? 1 : 0;
    }

    private void askThing() {
        int t = below(10) == 0 ? below(20) - 4 : below(5);
        int d = anyDate();
        int e = anyDate();
        boolean is = below(3) > 0;
        int k = below(60) - 2;
        check("comes(" + t + ", " + d + ")", () -> bit(real.comes(t, d)), () -> bit(naive.comes(t, d)));
        String next = check("next(" + t + ", " + d + ")", () -> real.next(t, d), () -> naive.next(t, d));
        check("date(" + t + ", " + k + ")", () -> real.date(t, k), () -> naive.date(t, k));
        check("times(" + t + ", " + d + ", " + e + ")", () -> real.times(t, d, e), () -> naive.times(t, d, e));
        int x = next.startsWith("2") ? Integer.parseInt(next) : e;
        check("except(" + t + ", " + x + ", " + is + ")",
                () -> bit(real.except(t, x, is)), () -> bit(naive.except(t, x, is)));
        int b = below(2) == 0 ? x : d;
        check("besides(" + t + ", " + b + ", " + is + ")",
                () -> bit(real.besides(t, b, is)), () -> bit(naive.besides(t, b, is)));
        check("next(" + t + ", " + d + ")", () -> real.next(t, d), () -> naive.next(t, d));
    }

    private void askAll() {
        int d = anyDate();
        int e = anyDate();
        int n = below(4) == 0 ? below(1100) - 20 : below(40);
        int shift = below(6) == 0 ? random.nextInt() : below(100000) - 50000;
        check("list(" + d + ", " + e + ")", () -> real.list(d, e), () -> naive.list(d, e));
        for (int j = 0; j < 6; j++) {
            int i = below(310) - 3;
            check("item(" + i + ")", () -> real.item(i), () -> naive.item(i));
        }
        check("busiest(" + d + ", " + e + ")", () -> real.busiest(d, e), () -> naive.busiest(d, e));
        check("quiet(" + d + ", " + n + ")", () -> real.quiet(d, n), () -> naive.quiet(d, n));
        check("shifted(" + d + ", " + shift + ")", () -> real.shifted(d, shift), () -> naive.shifted(d, shift));
    }

    private void dropOne() {
        int t = below(6) - 1;
        check("drop(" + t + ")", () -> {
            real.drop(t);
            return 0;
        }, () -> {
            naive.drop(t);
            return 0;
        });
    }

    private void run() {
        real = new RuledCalendar();
        naive = new NaiveCalendar();
        log.setLength(0);
        for (int i = 0; i < 14 && wrong == 0; i++) {
            newThing();
            askThing();
            if (below(3) == 0) {
                askAll();
            }
            if (below(3) == 0) {
                dropOne();
            }
        }
    }

    public static void main(String[] args) {
        int runs = args.length > 0 ? Integer.parseInt(args[0]) : 40;
        long seed = args.length > 1 ? Long.parseLong(args[1]) : 1;
        RandomRunsTest test = new RandomRunsTest(seed);
        for (int i = 0; i < runs && test.wrong == 0; i++) {
            test.run();
        }
        if (test.fruitful < 3 * runs) {
            test.wrong++;
            System.out.println("only " + test.fruitful + " things ever came");
        }
        System.out.println(test.wrong == 0 ? "all answers are as due" : "answers are not as due");
        if (test.wrong != 0) {
            System.exit(1);
        }
    }
}
