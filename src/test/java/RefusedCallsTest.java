import java.util.function.Function;

/** "A call that throws, or answers NONE, changes nothing (but for thing())": behind it all calls answer as before. */
public final class RefusedCallsTest extends Checks {
    private static final String TEXT = "FREQ=MONTHLY;BYMONTHDAY=-1;COUNT=40";
    private static final String NO_NUMBER = "-1";
    private static final String NO_ARGUMENT = "throws IllegalArgumentException";
    private static final String NO_INDEX = "throws IndexOutOfBoundsException";

    /** Three things with a gap among their numbers, a list, and the fault of a rule that was refused. */
    private static RuledCalendar some() {
        RuledCalendar x = new RuledCalendar();
        make(x, "FREQ=DAILY;INTERVAL=3", 20240101);
        make(x, "FREQ=DAILY", 20240101);
        make(x, "FREQ=WEEKLY;BYDAY=MO,FR", 20240101);
        make(x, "FREQ=YEARLY;COUNT=2", 20240102);
        x.drop(1);
        x.except(0, 20240104, true);
        x.besides(0, 20240103, true);
        x.except(2, 20240105, true);
        x.besides(2, 20231231, true);
        x.list(20231231, 20240120);
        make(x, "FREQ=DAILY;COUNT=1000", 20240101);
        write(x, TEXT);
        return x;
    }

    /** Twelve things, 200 bytes of text, 300 items; no number is free. */
    private static RuledCalendar full() {
        RuledCalendar x = new RuledCalendar();
        write(x, "FREQ=DAILY;INTERVAL=2");
        for (int i = 0; i < 12; i++) {
            x.thing(20240101 + i);
            x.except(i, 20240215, true);
            x.besides(i, 20230215, true);
        }
        x.list(FIRST, LAST);
        write(x, stretched("FREQ=DAILY;COUNT=", 17, 200));
        return x;
    }

    /** What the calls that change nothing answer. */
    private static String answers(RuledCalendar x) {
        StringBuilder all = new StringBuilder();
        all.append(x.fault()).append(' ').append(x.place());
        for (int i : new int[] {0, 1, 2, 3, 9, 10, 11, 12, 13, 14, 298, 299, 300}) {
            all.append(' ').append(answer(() -> x.item(i)));
        }
        for (int i = 0; i < 12; i++) {
            int thing = i;
            all.append(' ').append(answer(() -> x.date(thing, 0)));
            all.append(' ').append(answer(() -> x.times(thing, FIRST, LAST)));
            all.append(' ').append(answer(() -> x.next(thing, 20240103)));
            all.append(' ').append(answer(() -> x.comes(thing, 20240215)));
        }
        all.append(' ').append(x.busiest(FIRST, LAST)).append(' ').append(x.quiet(20240101, 2));
        return all.toString();
    }

    /** What the calls that change something answer: the text, the list, the free numbers, exceptions, days besides. */
    private static String answersOfChanges(RuledCalendar x) {
        StringBuilder all = new StringBuilder();
        all.append(x.list(20240101, LAST)).append(' ').append(x.item(7));
        for (int thing : new int[] {0, 2}) {
            for (int date : new int[] {20240103, 20240104, 20240105, 20240215, 20231231, 20230215, 20240108}) {
                all.append(' ').append(x.except(thing, date, false));
                all.append(' ').append(x.besides(thing, date, false));
            }
        }
        int number = x.thing(20240101);
        all.append(' ').append(number).append(' ').append(x.fault()).append(' ').append(x.place());
        all.append(' ').append(answer(() -> x.times(number, FIRST, LAST)));
        all.append(' ').append(x.feed(1, '0')).append(' ').append(x.wipe());
        return all.toString();
    }

    private static void changesNothing(String call, Function<RuledCalendar, Object> refused, String want) {
        changesNothing(call, some(), some(), refused, want);
        changesNothing(call + " with all room taken", full(), full(), refused, want);
    }

    private static void changesNothing(String call, RuledCalendar x, RuledCalendar untouched,
            Function<RuledCalendar, Object> refused, String want) {
        String before = answers(x);
        due(call, answer(() -> refused.apply(x)), want);
        due("behind " + call + " all calls", answers(x), before);
        due("behind " + call + " the changes", answersOfChanges(x), answersOfChanges(untouched));
    }

    private static void feedRefused() {
        for (int n : new int[] {0, 9, -1, Integer.MIN_VALUE, Integer.MAX_VALUE}) {
            changesNothing("feed " + n, x -> x.feed(n, 0x3b3b3b3b3b3b3b3bL), NO_ARGUMENT);
        }
        for (int n = 1; n <= 8; n++) {
            int many = n;
            changesNothing("feed " + n, full(), full(), x -> x.feed(many, -1L), NO_NUMBER);
        }
        for (int n = 2; n <= 8; n++) {
            int many = n;
            RuledCalendar x = new RuledCalendar();
            write(x, stretched("FREQ=DAILY;COUNT=", 17, 199));
            due("feed beyond 200", x.feed(many, -1L), NONE);
            due("a thing", x.thing(20240101), 0);
            due("how often it comes", x.times(0, FIRST, LAST), 17);
            due("feed up to 200", x.feed(1, '0'), 200);
            due("wipe", x.wipe(), 200);
        }
    }

    private static void thingRefused() {
        for (int date : NO_DATES) {
            changesNothing("thing " + date, x -> x.thing(date), NO_ARGUMENT);
        }
        changesNothing("thing with 12", full(), full(), x -> x.thing(20240101), NO_NUMBER);
    }

    private static RuledCalendar fullWithFaultyText() {
        RuledCalendar x = full();
        write(x, "FREQ=");
        return x;
    }

    private static void thingRefusedForItsRule() {
        changesNothing("thing with 12 and a fault", fullWithFaultyText(), fullWithFaultyText(),
                x -> x.thing(20240101), NO_NUMBER);
        RuledCalendar x = some();
        String before = answers(x);
        due("no fault behind it", x.feed(1, ';'), TEXT.length() + 1);
        due("thing", x.thing(20240101), NONE);
        due("the new fault alone", answers(x), before.replaceFirst("^2 17 ", "1 " + (TEXT.length() + 1) + " "));
        due("the text stays", x.wipe(), TEXT.length() + 1);
        due("the number stays free", make(x, "FREQ=DAILY", 20240101), 1);
    }

    private static void dropRefused() {
        for (int thing : NO_THINGS) {
            changesNothing("drop " + thing, x -> drop(x, thing), NO_INDEX);
        }
        for (int thing : new int[] {1, 4, 11}) {
            changesNothing("drop " + thing, some(), some(), x -> drop(x, thing), NO_INDEX);
        }
    }

    private static void marksRefused() {
        for (boolean is : new boolean[] {true, false}) {
            for (int thing : NO_THINGS) {
                changesNothing("except of " + thing, x -> x.except(thing, 20240108, is), NO_INDEX);
                changesNothing("besides of " + thing, x -> x.besides(thing, 20240106, is), NO_INDEX);
            }
            for (int date : NO_DATES) {
                changesNothing("except " + date, x -> x.except(0, date, is), NO_ARGUMENT);
                changesNothing("besides " + date, x -> x.besides(0, date, is), NO_ARGUMENT);
            }
        }
    }

    private static void gonesMarksRefused() {
        RuledCalendar x = some();
        refused("except of one that is gone", INDEX, () -> x.except(1, 20240108, true));
        refused("besides of one that is gone", INDEX, () -> x.besides(1, 20231206, true));
        due("its number", make(x, "FREQ=DAILY", 20240101), 1);
        due("no exception", x.comes(1, 20240108), true);
        due("no day besides", x.date(1, 0), 20240101);
    }

    private static void questionsRefused() {
        for (int thing : NO_THINGS) {
            changesNothing("comes of " + thing, x -> x.comes(thing, 20240101), NO_INDEX);
            changesNothing("next of " + thing, x -> x.next(thing, 20240101), NO_INDEX);
            changesNothing("date of " + thing, x -> x.date(thing, 0), NO_INDEX);
            changesNothing("times of " + thing, x -> x.times(thing, FIRST, LAST), NO_INDEX);
        }
        for (int date : NO_DATES) {
            changesNothing("comes " + date, x -> x.comes(0, date), NO_ARGUMENT);
            changesNothing("next " + date, x -> x.next(0, date), NO_ARGUMENT);
            changesNothing("times " + date, x -> x.times(0, date, LAST), NO_ARGUMENT);
            changesNothing("times up to " + date, x -> x.times(0, FIRST, date), NO_ARGUMENT);
        }
        changesNothing("date -1", x -> x.date(0, -1), NO_ARGUMENT);
    }

    private static void questionsAnsweredNone() {
        changesNothing("next behind the last date", x -> x.next(0, LAST), NO_NUMBER);
        changesNothing("date far behind", x -> x.date(0, Integer.MAX_VALUE), NO_NUMBER);
        changesNothing("busiest of nothing", x -> x.busiest(FIRST, 20220101), NO_NUMBER);
        changesNothing("busiest backwards", x -> x.busiest(LAST, FIRST), NO_NUMBER);
        changesNothing("quiet at the end", x -> x.quiet(LAST, 2), NO_NUMBER);
        changesNothing("shifted behind the end", x -> x.shifted(LAST, 1), NO_NUMBER);
        changesNothing("shifted before the beginning", x -> x.shifted(FIRST, -1), NO_NUMBER);
    }

    private static void listAndItemRefused() {
        for (int date : NO_DATES) {
            changesNothing("list " + date, x -> x.list(date, LAST), NO_ARGUMENT);
            changesNothing("list up to " + date, x -> x.list(FIRST, date), NO_ARGUMENT);
        }
        for (int i : new int[] {-1, 300, Integer.MIN_VALUE, Integer.MAX_VALUE}) {
            changesNothing("item " + i, x -> x.item(i), NO_INDEX);
        }
    }

    private static void questionsOfAllRefused() {
        for (int date : NO_DATES) {
            changesNothing("busiest " + date, x -> x.busiest(date, LAST), NO_ARGUMENT);
            changesNothing("busiest up to " + date, x -> x.busiest(FIRST, date), NO_ARGUMENT);
            changesNothing("quiet " + date, x -> x.quiet(date, 1), NO_ARGUMENT);
            changesNothing("shifted " + date, x -> x.shifted(date, 0), NO_ARGUMENT);
        }
        changesNothing("quiet 0", x -> x.quiet(FIRST, 0), NO_ARGUMENT);
        changesNothing("quiet 1001", x -> x.quiet(FIRST, 1001), NO_ARGUMENT);
    }

    /** The calls that only ask are not refused here, and leave all as it was too. */
    private static void askingChangesNothing() {
        changesNothing("comes", x -> x.comes(0, 20240101), "true");
        changesNothing("next", x -> x.next(0, FIRST) > 0, "true");
        changesNothing("date", x -> x.date(0, 5) > 0, "true");
        changesNothing("times", x -> x.times(0, FIRST, LAST) > 0, "true");
        changesNothing("item", x -> x.item(0) > 0, "true");
        changesNothing("busiest", x -> x.busiest(20240102, LAST) > 0, "true");
        changesNothing("quiet", x -> x.quiet(FIRST, 1000), "" + FIRST);
        changesNothing("shifted", x -> x.shifted(FIRST, 1), "19000102");
        changesNothing("fault", x -> x.fault() >= 0, "true");
        changesNothing("place", x -> x.place() >= NONE, "true");
    }

    public static void main(String[] args) {
        sentence("feed() that is refused", RefusedCallsTest::feedRefused);
        sentence("thing() that is refused", RefusedCallsTest::thingRefused);
        sentence("thing() with a faulty rule", RefusedCallsTest::thingRefusedForItsRule);
        sentence("drop() that is refused", RefusedCallsTest::dropRefused);
        sentence("except(), besides() that are refused", RefusedCallsTest::marksRefused);
        sentence("except(), besides() of a thing that is gone", RefusedCallsTest::gonesMarksRefused);
        sentence("comes(), next(), date(), times() that are refused", RefusedCallsTest::questionsRefused);
        sentence("calls that answer NONE", RefusedCallsTest::questionsAnsweredNone);
        sentence("list(), item() that are refused", RefusedCallsTest::listAndItemRefused);
        sentence("busiest(), quiet(), shifted() that are refused", RefusedCallsTest::questionsOfAllRefused);
        sentence("calls that only ask", RefusedCallsTest::askingChangesNothing);
        end();
    }
}
