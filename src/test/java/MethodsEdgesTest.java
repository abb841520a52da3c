/** The boundary cases that the document names under each promise: limits, nothing given, all room taken. */
public final class MethodsEdgesTest extends Checks {
    private static final int[] EXTREMES = {Integer.MIN_VALUE, -1000, -1, Integer.MAX_VALUE};

    private static RuledCalendar full() {
        RuledCalendar x = new RuledCalendar();
        write(x, "FREQ=DAILY");
        for (int i = 0; i < 12; i++) {
            due("thing", x.thing(20240101 + i), i);
        }
        return x;
    }

    // Promise 1

    private static void newTextIsEmpty() {
        due("wipe", new RuledCalendar().wipe(), 0);
        due("feed", new RuledCalendar().feed(1, 0), 1);
        RuledCalendar x = new RuledCalendar();
        due("thing", x.thing(20240101), NONE);
        due("fault", x.fault(), 1);
        due("place", x.place(), 0);
    }

    private static void newHasNoThings() {
        RuledCalendar x = new RuledCalendar();
        for (int i = -1; i <= 12; i++) {
            int thing = i;
            refused("drop " + i, INDEX, () -> drop(x, thing));
            refused("except " + i, INDEX, () -> x.except(thing, 20240101, true));
            refused("besides " + i, INDEX, () -> x.besides(thing, 20240101, true));
            refused("comes " + i, INDEX, () -> x.comes(thing, 20240101));
            refused("next " + i, INDEX, () -> x.next(thing, 20240101));
            refused("date " + i, INDEX, () -> x.date(thing, 0));
            refused("times " + i, INDEX, () -> x.times(thing, 20240101, 20240101));
            refused("item " + i, INDEX, () -> x.item(thing));
        }
        due("list", x.list(FIRST, LAST), 0);
        refused("item behind an empty list", INDEX, () -> x.item(0));
        due("busiest", x.busiest(FIRST, LAST), NONE);
        due("quiet", x.quiet(FIRST, 1000), FIRST);
        due("fault", x.fault(), 0);
        due("place", x.place(), NONE);
        due("the first thing's number", make(x, "FREQ=DAILY", 20240101), 0);
    }

    private static void objectsAreApart() {
        RuledCalendar x = full();
        x.list(FIRST, LAST);
        RuledCalendar y = new RuledCalendar();
        due("its text", y.wipe(), 0);
        refused("its list", INDEX, () -> y.item(0));
        refused("its things", INDEX, () -> drop(y, 0));
        due("a thing of it", make(y, "FREQ=YEARLY;COUNT=1", 20200202), 0);
        due("the other one's text", x.wipe(), 10);
        due("the other one's thing", x.date(0, 0), 20240101);
        due("the other one's list", x.item(0), 16L * 20240101);
    }

    // Promise 2

    private static void feedTakesOneToEight() {
        RuledCalendar x = new RuledCalendar();
        for (int n : new int[] {0, 9, 10, 200, Integer.MIN_VALUE, -1, Integer.MAX_VALUE}) {
            refused("n is " + n, ARGUMENT, () -> x.feed(n, 0x4141414141414141L));
        }
        int length = 0;
        for (int n = 1; n <= 8; n++) {
            length += n;
            due("n is " + n, x.feed(n, 0x4141414141414141L), length);
        }
        due("how many", x.wipe(), 36);
    }

    private static void feedTakesLowestBytesFirst() {
        String rule = "FREQ=DAILY;COUNT=17;INTERVAL=002";
        for (int n = 1; n <= 8; n++) {
            for (long above : new long[] {0L, -1L, 0x3b3b3b3b3b3b3b3bL}) {
                RuledCalendar x = new RuledCalendar();
                for (int at = 0; at < rule.length(); at += n) {
                    long bytes = above;
                    int many = Math.min(n, rule.length() - at);
                    for (int i = many - 1; i >= 0; i--) {
                        bytes = bytes & ~(255L << 8 * i) | (long) rule.charAt(at + i) << 8 * i;
                    }
                    due("by " + n, x.feed(many, bytes), at + many);
                }
                due("its number", x.thing(20240101), 0);
                due("how often", x.times(0, FIRST, LAST), 17);
                due("the next date", x.date(0, 1), 20240103);
            }
        }
    }

    private static void feedUpToTwoHundred() {
        for (int n = 1; n <= 8; n++) {
            RuledCalendar x = new RuledCalendar();
            for (int i = 0; i < 24; i++) {
                x.feed(8, -1L);
            }
            if (n < 8) {
                due("before the last " + n, x.feed(8 - n, -1L), 200 - n);
            }
            if (n < 8) {
                due("201", x.feed(n + 1, -1L), NONE);
            }
            due("200", x.feed(n, -1L), 200);
            due("1 more", x.feed(1, -1L), NONE);
            due("8 more", x.feed(8, -1L), NONE);
            refused("0 more", ARGUMENT, () -> x.feed(0, -1L));
            refused("9 more", ARGUMENT, () -> x.feed(9, -1L));
            due("how many", x.wipe(), 200);
            due("there is room again", x.feed(8, -1L), 8);
        }
    }

    private static void ruleOfTwoHundred() {
        RuledCalendar x = new RuledCalendar();
        write(x, stretched("FREQ=DAILY;COUNT=", 7, 199));
        due("0 is fed", x.feed(1, '0'), 200);
        due("refused", x.feed(1, '0'), NONE);
        due("a thing", x.thing(20240101), 0);
        due("how often", x.times(0, FIRST, LAST), 70);
    }

    // Promise 3

    private static void wipeAnswersHowMany() {
        RuledCalendar x = new RuledCalendar();
        due("of none", x.wipe(), 0);
        x.feed(1, 0);
        due("of one", x.wipe(), 1);
        due("again", x.wipe(), 0);
        write(x, stretched("FREQ=DAILY;COUNT=", 7, 200));
        due("of all", x.wipe(), 200);
        due("again", x.wipe(), 0);
    }

    private static void wipeLeavesNothingOfText() {
        RuledCalendar x = new RuledCalendar();
        write(x, "FREQ=DAILY;COUNT=9;INTERVAL=2;BYMONTH=1;BYMONTHDAY=1,-1;BYSETPOS=1;BYDAY=MO");
        due("all parts", x.thing(20240101), 0);
        x.wipe();
        due("no rule", x.thing(20240101), NONE);
        due("its place", x.place(), 0);
        due("a rule", make(x, "FREQ=MONTHLY;BYDAY=-1MO", 20240101), 1);
        due("nothing of the first", x.times(1, FIRST, LAST), 176 * 12);
        due("another rule", make(x, "FREQ=DAILY", 20240101), 2);
        due("nothing of the others", x.times(2, 20240101, 20241231), 366);
    }

    // Promise 4

    private static void thingsUpToTwelve() {
        RuledCalendar x = full();
        due("a thirteenth", x.thing(20240101), NONE);
        due("again", x.thing(20240101), NONE);
        due("its fault", x.fault(), 0);
        for (int i = 0; i < 12; i++) {
            due("all are there", x.date(i, 0), 20240101 + i);
        }
        x.drop(11);
        due("the last number", x.thing(20240201), 11);
        due("none", x.thing(20240101), NONE);
        x.drop(0);
        due("the first number", x.thing(20240301), 0);
    }

    private static void thingTakesLeastNumber() {
        RuledCalendar x = full();
        for (int i : new int[] {10, 2, 5, 0}) {
            x.drop(i);
        }
        for (int i : new int[] {0, 2, 5, 10, NONE}) {
            due("the least", x.thing(20250101), i);
        }
        due("one between", x.date(4, 0), 20240105);
        due("a new one", x.date(5, 0), 20250101);
    }

    private static void thingWithFault() {
        RuledCalendar x = new RuledCalendar();
        due("none", make(x, "FREQ=DAILY;", 20240101), NONE);
        refused("there is no thing", INDEX, () -> x.date(0, 0));
        due("the text stays", x.feed(7, 'C' | 'O' << 8 | 'U' << 16 | (long) 'N' << 24 | (long) 'T' << 32
                | (long) '=' << 40 | (long) '3' << 48), 18);
        due("its number is free", x.thing(20240101), 0);
        due("how often", x.times(0, FIRST, LAST), 3);
        due("the text stays", x.thing(20240101), 1);
        due("the text stays", x.wipe(), 18);
    }

    /** Rules whose parts, or what they stand for, differ in each of two ways. */
    private static final String[] RULES = {
        "FREQ=DAILY", "FREQ=WEEKLY", "FREQ=MONTHLY", "FREQ=YEARLY",
        "FREQ=DAILY;INTERVAL=2", "FREQ=DAILY;INTERVAL=3;COUNT=3", "FREQ=DAILY;COUNT=4",
        "FREQ=DAILY;UNTIL=20240301", "FREQ=WEEKLY;UNTIL=20240401",
        "FREQ=DAILY;BYMONTH=2", "FREQ=YEARLY;BYMONTH=3,5",
        "FREQ=MONTHLY;BYMONTHDAY=7", "FREQ=MONTHLY;BYMONTHDAY=9,-3", "FREQ=MONTHLY;BYMONTHDAY=-5",
        "FREQ=WEEKLY;BYDAY=TU", "FREQ=WEEKLY;BYDAY=TH,FR",
        "FREQ=MONTHLY;BYDAY=1TU", "FREQ=MONTHLY;BYDAY=2TU,-1TH", "FREQ=MONTHLY;BYDAY=-2TH",
        "FREQ=MONTHLY;BYDAY=TU,TH;BYSETPOS=1", "FREQ=MONTHLY;BYDAY=TU,TH;BYSETPOS=3,-1",
        "FREQ=MONTHLY;BYDAY=TU,TH;BYSETPOS=-2"};

    private static String firstDates(RuledCalendar x, int thing) {
        StringBuilder all = new StringBuilder();
        for (int k = 0; k < 6; k++) {
            all.append(x.date(thing, k)).append(' ');
        }
        return all.toString();
    }

    private static void nothingOfTheRuleBefore() {
        for (String rule : RULES) {
            String want = firstDates(with(rule, 20240115), 0);
            for (String before : RULES) {
                RuledCalendar x = with(before, 20240106);
                due(rule, make(x, rule, 20240115), 1);
                due(rule + " behind " + before, firstDates(x, 1), want);
                RuledCalendar y = new RuledCalendar();
                due(before + ";", make(y, before + ";", 20240106), NONE);
                due(rule, make(y, rule, 20240115), 0);
                due(rule + " behind a faulty " + before, firstDates(y, 0), want);
                RuledCalendar z = with(before, 20240106);
                z.drop(0);
                due(rule, make(z, rule, 20240115), 0);
                due(rule + " in the place of " + before, firstDates(z, 0), want);
            }
        }
    }

    private static void thingWithWrongStart() {
        RuledCalendar x = new RuledCalendar();
        for (int date : NO_DATES) {
            refused("with an empty text " + date, ARGUMENT, () -> x.thing(date));
        }
        write(x, "FREQ");
        for (int date : NO_DATES) {
            refused("with a fault " + date, ARGUMENT, () -> x.thing(date));
        }
        RuledCalendar y = full();
        for (int date : NO_DATES) {
            refused("with 12 things " + date, ARGUMENT, () -> y.thing(date));
        }
        due("the first date", make(x, "FREQ=DAILY", FIRST), 0);
        due("it comes", x.comes(0, FIRST), true);
        due("the last date", make(x, "FREQ=DAILY", LAST), 1);
        due("it comes", x.date(1, 0), LAST);
        due("a leap day", x.thing(20000229), 2);
    }

    // Promises 5 and 6

    private static void faultOfNone() {
        RuledCalendar x = new RuledCalendar();
        due("fault", x.fault(), 0);
        due("place", x.place(), NONE);
        feed(x, "FREQ");
        due("fault before thing()", x.fault(), 0);
        due("place before thing()", x.place(), NONE);
        feed(x, "=DAILY");
        x.thing(20240101);
        due("fault of a rule without", x.fault(), 0);
        due("place of a rule without", x.place(), NONE);
    }

    private static void faultOfLastThing() {
        RuledCalendar x = new RuledCalendar();
        String[] texts = {"FREQ=DAILY;COUNT=0", "FREQ=DAILY", "FREQ", "COUNT=1", "FREQ=DAILY;FREQ", "FREQ=YEARLY"};
        int[] kinds = {2, 0, 1, 4, 3, 0};
        int[] places = {17, NONE, 4, 7, 11, NONE};
        for (int i = 0; i < texts.length; i++) {
            make(x, texts[i], 20240101);
            due(texts[i] + " fault", x.fault(), kinds[i]);
            due(texts[i] + " place", x.place(), places[i]);
            due(texts[i] + " fault again", x.fault(), kinds[i]);
        }
        x.drop(0);
        make(x, "COUNT=1", 20240101);
        x.wipe();
        feed(x, "FREQ=DAILY");
        x.list(FIRST, LAST);
        x.drop(1);
        due("other calls leave the fault", x.fault(), 4);
        due("other calls leave its place", x.place(), 7);
    }

    private static void faultWithNoNumberFree() {
        RuledCalendar x = full();
        write(x, "FREQ");
        due("no number", x.thing(20240101), NONE);
        due("its fault is not told", x.fault(), 0);
        due("its place is not told", x.place(), NONE);
        x.drop(6);
        due("not before thing()", x.fault(), 0);
        due("a number, but a fault", x.thing(20240101), NONE);
        due("its fault", x.fault(), 1);
        due("its place", x.place(), 4);
        due("a number", make(x, "FREQ=DAILY", 20240101), 6);
        write(x, "COUNT=1");
        due("no number", x.thing(20240101), NONE);
        due("the fault of the last with a number", x.fault(), 0);
        due("the place of the last with a number", x.place(), NONE);
    }

    private static void placeAtTheEdges() {
        fault("", 1, 0);
        fault("?", 1, 0);
        fault(stretched("COUNT=", 1, 200), 4, 200);
        fault(stretched("COUNT=", 1, 199) + ";", 1, 200);
        fault(stretched("COUNT=", 1, 199) + "?", 1, 199);
        fault(stretched("FREQ=DAILY;BYMONTH=", 1, 195) + ",13;A", 2, 196);
    }

    // Promise 7

    private static void dropOfNone() {
        RuledCalendar x = with("FREQ=DAILY", 20240101);
        for (int thing : NO_THINGS) {
            refused("drop " + thing, INDEX, () -> drop(x, thing));
        }
        refused("one that is not there yet", INDEX, () -> drop(x, 1));
        refused("the last number", INDEX, () -> drop(x, 11));
        due("drop", drop(x, 0), "nothing");
        refused("one that is gone", INDEX, () -> drop(x, 0));
        RuledCalendar y = full();
        refused("12 of 12", INDEX, () -> drop(y, 12));
        for (int i = 11; i >= 0; i--) {
            due("drop", drop(y, i), "nothing");
        }
        due("none comes", y.list(FIRST, LAST), 0);
        due("none comes", y.busiest(FIRST, LAST), NONE);
        due("none comes", y.quiet(20240101, 1000), 20240101);
        due("all are free", y.thing(20240101), 0);
    }

    private static void goneWithAllItsDays() {
        RuledCalendar x = with("FREQ=DAILY;COUNT=5", 20240101);
        x.except(0, 20240102, true);
        x.besides(0, 20240201, true);
        x.drop(0);
        due("a new one", x.thing(20240101), 0);
        due("its days", x.times(0, FIRST, LAST), 5);
        due("no exception", x.except(0, 20240102, true), false);
        due("no day besides", x.besides(0, 20240201, true), false);
    }

    // Promises 8 and 9

    private static void exceptOnAndOff() {
        RuledCalendar x = with("FREQ=DAILY", FIRST);
        for (int date : new int[] {FIRST, LAST, 20240131, 20240201, 20240229}) {
            due("off where it is not", x.except(0, date, false), false);
            due("on", x.except(0, date, true), false);
            due("on again", x.except(0, date, true), true);
            due("it comes not", x.comes(0, date), false);
            due("off", x.except(0, date, false), true);
            due("off again", x.except(0, date, false), false);
            due("it comes", x.comes(0, date), true);
        }
        due("how often", x.times(0, FIRST, LAST), 109573);
    }

    private static void besidesOnAndOff() {
        RuledCalendar x = with("FREQ=DAILY;UNTIL=19000101", LAST);
        for (int date : new int[] {FIRST, LAST, 20240131, 20240201, 20240229}) {
            due("off where it is not", x.besides(0, date, false), false);
            due("on", x.besides(0, date, true), false);
            due("on again", x.besides(0, date, true), true);
            due("it comes", x.comes(0, date), true);
            due("it comes once", x.times(0, date, date), 1);
            due("off", x.besides(0, date, false), true);
            due("off again", x.besides(0, date, false), false);
            due("it comes not", x.comes(0, date), false);
        }
        due("how often", x.times(0, FIRST, LAST), 0);
    }

    private static void exceptAndBesidesAreApart() {
        RuledCalendar x = with("FREQ=DAILY;COUNT=2", 20240101);
        make(x, "FREQ=DAILY;COUNT=2", 20240101);
        due("besides", x.besides(0, 20240101, true), false);
        due("it was no exception", x.except(0, 20240101, true), false);
        due("it is still besides", x.besides(0, 20240101, true), true);
        due("exceptions are stronger", x.comes(0, 20240101), false);
        due("not of the other thing", x.comes(1, 20240101), true);
        due("not of the other thing", x.except(1, 20240101, false), false);
        due("not of the other thing", x.besides(1, 20240101, false), false);
        due("no exception", x.except(0, 20240101, false), true);
        due("it comes", x.comes(0, 20240101), true);
        due("not besides", x.besides(0, 20240101, false), true);
        due("it comes by its rule", x.comes(0, 20240101), true);
    }

    private static void allDatesAreExceptions() {
        RuledCalendar x = with("FREQ=YEARLY;UNTIL=20241231", 20200101);
        for (int year = 2020; year <= 2024; year++) {
            x.except(0, year * 10000 + 101, true);
        }
        due("next", x.next(0, FIRST), NONE);
        due("date", x.date(0, 0), NONE);
        due("times", x.times(0, FIRST, LAST), 0);
        due("list", x.list(FIRST, LAST), 0);
        due("busiest", x.busiest(FIRST, LAST), NONE);
        due("quiet", x.quiet(20200101, 1000), 20200101);
    }

    private static void questionsKnowExceptionsAndDaysBesides() {
        RuledCalendar x = with("FREQ=DAILY;COUNT=4", 20240130);
        make(x, "FREQ=YEARLY;COUNT=1", 20240201);
        x.except(0, 20240131, true);
        x.besides(0, 20240128, true);
        x.besides(1, 20240128, true);
        x.besides(1, 20240205, true);
        int[] dates = {20240128, 20240130, 20240201, 20240202};
        for (int k = 0; k < 4; k++) {
            due("date " + k, x.date(0, k), dates[k]);
            due("next before date " + k, x.next(0, x.shifted(dates[k], -1)), dates[k]);
        }
        due("times", x.times(0, 20240128, 20240131), 2);
        due("list", x.list(20240128, 20240205), 7);
        long[] items = {16L * 20240128, 16L * 20240128 + 1, 16L * 20240130, 16L * 20240201, 16L * 20240201 + 1,
            16L * 20240202, 16L * 20240205 + 1};
        for (int i = 0; i < items.length; i++) {
            due("item " + i, x.item(i), items[i]);
        }
        due("busiest", x.busiest(20240101, 20240229), 20240128);
        due("busiest behind it", x.busiest(20240129, 20240229), 20240201);
        due("quiet at an exception", x.quiet(20240130, 1), 20240131);
        due("quiet before a day besides", x.quiet(20240130, 2), 20240203);
        due("quiet behind all", x.quiet(20240130, 3), 20240206);
        x.except(1, 20240128, true);
        x.besides(1, 20240205, false);
        due("busiest, one less", x.busiest(20240101, 20240229), 20240201);
        due("quiet, one less", x.quiet(20240130, 3), 20240203);
        due("list, two less", x.list(20240128, 20240205), 5);
    }

    // Promises 10 to 13

    private static void comesAtTheEdges() {
        RuledCalendar x = with("FREQ=DAILY;COUNT=3", 20240229);
        due("before the start", x.comes(0, 20240228), false);
        due("the start", x.comes(0, 20240229), true);
        due("the last one", x.comes(0, 20240302), true);
        due("behind it", x.comes(0, 20240303), false);
        due("the first date", x.comes(0, FIRST), false);
        due("the last date", x.comes(0, LAST), false);
    }

    private static void nextAtTheEdges() {
        RuledCalendar x = with("FREQ=YEARLY;BYMONTH=1,12;BYMONTHDAY=1,31", FIRST);
        due("behind the first date", x.next(0, FIRST), 19000131);
        due("behind a month's last day", x.next(0, 19000131), 19001201);
        due("behind the day before", x.next(0, 19001130), 19001201);
        due("behind the first of a month", x.next(0, 19001201), 19001231);
        due("behind a year's last day", x.next(0, 19001231), 19010101);
        due("behind the last but one", x.next(0, 21991230), LAST);
        due("behind the last date", x.next(0, LAST), NONE);
        make(x, "FREQ=DAILY;COUNT=2", 20240228);
        due("behind the last but one", x.next(1, 20240228), 20240229);
        due("behind its last", x.next(1, 20240229), NONE);
        make(x, "FREQ=DAILY", LAST);
        due("the last date of all", x.next(2, FIRST), LAST);
        make(x, "FREQ=DAILY;COUNT=1", FIRST);
        due("not the first date of all", x.next(3, FIRST), NONE);
    }

    private static void dateAtTheEdges() {
        RuledCalendar x = with("FREQ=MONTHLY;BYMONTHDAY=1,31;COUNT=4", 20240101);
        int[] want = {20240101, 20240131, 20240201, 20240301};
        for (int k = 0; k < 4; k++) {
            due("date " + k, x.date(0, k), want[k]);
        }
        due("as many as there are", x.date(0, 4), NONE);
        due("the greatest k", x.date(0, Integer.MAX_VALUE), NONE);
        for (int k : new int[] {-1, -2, Integer.MIN_VALUE}) {
            refused("k is " + k, ARGUMENT, () -> x.date(0, k));
        }
        make(x, "FREQ=DAILY;UNTIL=19000101", LAST);
        due("of a thing that never comes", x.date(1, 0), NONE);
    }

    private static void timesAtTheEdges() {
        RuledCalendar x = with("FREQ=DAILY;UNTIL=20240303", 20240130);
        due("one date", x.times(0, 20240130, 20240130), 1);
        due("the date before", x.times(0, 20240129, 20240129), 0);
        due("the date behind", x.times(0, 20240304, 20240304), 0);
        due("up to the start", x.times(0, FIRST, 20240130), 1);
        due("from the last one", x.times(0, 20240303, LAST), 1);
        due("both ends", x.times(0, 20240131, 20240301), 31);
        due("all", x.times(0, FIRST, LAST), 34);
        due("from behind to", x.times(0, 20240202, 20240201), 0);
        due("from a month behind to", x.times(0, 20240301, 20240229), 0);
        due("from the last to the first", x.times(0, LAST, FIRST), 0);
        due("the first date", x.times(0, FIRST, FIRST), 0);
        due("the last date", x.times(0, LAST, LAST), 0);
    }

    // Promises 14 and 15

    private static void listUpTo(String rule, int due) {
        RuledCalendar x = with(rule, 20240101);
        due("list", x.list(FIRST, LAST), due);
        refused("item behind the last", INDEX, () -> x.item(due));
        refused("item -1", INDEX, () -> x.item(-1));
        if (due == 0) {
            return;
        }
        due("the first item", x.item(0), 16L * 20240101);
        due("the last item", x.item(due - 1), 16L * x.shifted(20240101, due - 1));
    }

    private static void listUpToThreeHundred() {
        listUpTo("FREQ=DAILY;UNTIL=20230101", 0);
        listUpTo("FREQ=DAILY;COUNT=1", 1);
        listUpTo("FREQ=DAILY;COUNT=299", 299);
        listUpTo("FREQ=DAILY;COUNT=300", 300);
        listUpTo("FREQ=DAILY;COUNT=301", 300);
        listUpTo("FREQ=DAILY", 300);
    }

    private static void listIsCutWithinADate() {
        RuledCalendar x = full();
        due("12 a day", x.list(20240201, LAST), 300);
        for (int i = 0; i < 300; i++) {
            due("item " + i, x.item(i), 16L * (20240201 + i / 12) + i % 12);
        }
        x.drop(4);
        due("11 a day", x.list(20240201, LAST), 300);
        due("item 4", x.item(4), 16L * 20240201 + 5);
        due("item 296", x.item(296), 16L * 20240227 + 11);
        due("item 297", x.item(297), 16L * 20240228);
        due("item 299", x.item(299), 16L * 20240228 + 2);
        refused("item 300", INDEX, () -> x.item(300));
    }

    private static void listFromUpTo() {
        RuledCalendar x = with("FREQ=DAILY", FIRST);
        due("the first date", x.list(FIRST, FIRST), 1);
        due("its item", x.item(0), 16L * FIRST);
        due("the last date", x.list(LAST, LAST), 1);
        due("its item", x.item(0), 16L * LAST);
        refused("only one", INDEX, () -> x.item(1));
        due("over a month's end", x.list(20240131, 20240201), 2);
        due("its items", x.item(0), 16L * 20240131);
        due("its items", x.item(1), 16L * 20240201);
        due("from behind to", x.list(20240201, 20240131), 0);
        refused("an empty list", INDEX, () -> x.item(0));
        due("from behind to in a month", x.list(20240102, 20240101), 0);
        due("from the last to the first", x.list(LAST, FIRST), 0);
    }

    private static void itemsOfTheLastList() {
        RuledCalendar x = with("FREQ=DAILY;COUNT=2", 20240101);
        refused("before a list", INDEX, () -> x.item(0));
        due("list", x.list(FIRST, LAST), 2);
        make(x, "FREQ=DAILY;COUNT=2", 20230101);
        x.except(0, 20240101, true);
        x.besides(0, 20230101, true);
        x.drop(0);
        due("it stays", x.item(0), 16L * 20240101);
        due("it stays", x.item(1), 16L * 20240102);
        refused("it stays", INDEX, () -> x.item(2));
        due("a list anew", x.list(FIRST, LAST), 2);
        due("its item", x.item(0), 16L * 20230101 + 1);
        for (int i : EXTREMES) {
            refused("item " + i, INDEX, () -> x.item(i));
        }
        due("an empty list", x.list(FIRST, FIRST), 0);
        refused("nothing", INDEX, () -> x.item(0));
    }

    // Promise 16

    private static void busiestByHowMany() {
        RuledCalendar x = new RuledCalendar();
        for (int i = 0; i < 12; i++) {
            make(x, "FREQ=DAILY;UNTIL=20240112", 20240101 + i);
        }
        for (int i = 0; i < 12; i++) {
            due("up to " + (i + 1) + " things", x.busiest(FIRST, 20240101 + i), 20240101 + i);
        }
        due("behind the last", x.busiest(FIRST, LAST), 20240112);
        for (int i = 0; i < 12; i++) {
            x.except(i, 20240112, true);
        }
        due("all but the last", x.busiest(FIRST, LAST), 20240111);
        due("none at one date", x.busiest(20240112, 20240112), NONE);
    }

    private static void busiestFirstOfSuch() {
        RuledCalendar x = with("FREQ=DAILY;INTERVAL=2", 20240101);
        make(x, "FREQ=DAILY;INTERVAL=3", 20240101);
        due("the first of two", x.busiest(20240102, LAST), 20240107);
        due("at the begin", x.busiest(20240107, LAST), 20240107);
        due("behind it", x.busiest(20240108, LAST), 20240113);
        due("at the end", x.busiest(20240108, 20240113), 20240113);
        due("before it: the first of one", x.busiest(20240108, 20240112), 20240109);
        due("over a month's end", x.busiest(20240126, 20240206), 20240131);
    }

    private static void busiestOfNone() {
        RuledCalendar x = with("FREQ=DAILY;COUNT=2", 20240131);
        due("before the start", x.busiest(FIRST, 20240130), NONE);
        due("up to the start", x.busiest(FIRST, 20240131), 20240131);
        due("from the last one", x.busiest(20240201, LAST), 20240201);
        due("behind the last one", x.busiest(20240202, LAST), NONE);
        due("from behind to", x.busiest(20240201, 20240131), NONE);
        due("from behind to in a month", x.busiest(20240202, 20240201), NONE);
        make(x, "FREQ=DAILY", LAST);
        due("the last date", x.busiest(LAST, LAST), LAST);
        make(x, "FREQ=DAILY;COUNT=1", FIRST);
        due("the first date", x.busiest(FIRST, FIRST), FIRST);
    }

    // Promise 17

    private static void quietTakesOneToThousand() {
        RuledCalendar x = new RuledCalendar();
        for (int n : new int[] {0, 1001, 1002, 109573, Integer.MIN_VALUE, -1, Integer.MAX_VALUE}) {
            refused("n is " + n, ARGUMENT, () -> x.quiet(20240101, n));
            refused("n is " + n + " at the last date", ARGUMENT, () -> x.quiet(LAST, n));
            refused("n is " + n + ", no date", ARGUMENT, () -> x.quiet(0, n));
        }
        due("1", x.quiet(20240101, 1), 20240101);
        due("999", x.quiet(20240101, 999), 20240101);
        due("1000", x.quiet(20240101, 1000), 20240101);
    }

    private static void quietUpToTheEnd() {
        RuledCalendar x = new RuledCalendar();
        for (int n : new int[] {1, 2, 31, 32, 366, 999, 1000}) {
            int last = x.shifted(LAST, 1 - n);
            due(n + " days", x.quiet(last, n), last);
            if (n > 1) {
                due("one day less", x.quiet(x.shifted(last, 1), n), NONE);
            }
        }
        make(x, "FREQ=DAILY;COUNT=2", 21991229);
        due("behind the last one", x.quiet(21991229, 1), LAST);
        due("two are too many", x.quiet(21991229, 2), NONE);
        due("before them", x.quiet(21991201, 28), 21991201);
        due("29 are too many", x.quiet(21991201, 29), NONE);
        make(x, "FREQ=DAILY", LAST);
        due("none is left", x.quiet(21991229, 1), NONE);
        due("none is left", x.quiet(LAST, 1), NONE);
    }

    private static void quietBetween() {
        RuledCalendar x = with("FREQ=YEARLY", 20240131);
        due("from one on, not before", x.quiet(20240201, 365), 20240201);
        due("366 days fit nowhere", x.quiet(20240201, 366), NONE);
        due("the days before a date", x.quiet(20240130, 1), 20240130);
        due("one day is not two", x.quiet(20240130, 2), 20240201);
        due("at a date", x.quiet(20240131, 1), 20240201);
        due("365 before the start", x.quiet(20230131, 365), 20230131);
        due("366 before the start", x.quiet(20230130, 366), 20230130);
        due("366 in none", x.quiet(20230131, 366), NONE);
        make(x, "FREQ=DAILY;COUNT=999", 20200101);
        due("999 days in a row", x.quiet(20200101, 1), x.shifted(20200101, 999));
        make(x, "FREQ=DAILY", FIRST);
        due("never", x.quiet(FIRST, 1), NONE);
        x.except(2, 20240131, true);
        due("not at a date of another thing", x.quiet(FIRST, 1), NONE);
        x.except(0, 20240131, true);
        due("one day", x.quiet(FIRST, 1), 20240131);
        due("one day only", x.quiet(FIRST, 2), NONE);
    }

    // Promise 18

    private static void shiftedWithinAll() {
        RuledCalendar x = new RuledCalendar();
        due("by 0", x.shifted(FIRST, 0), FIRST);
        due("by 0", x.shifted(LAST, 0), LAST);
        due("before the first", x.shifted(FIRST, -1), NONE);
        due("behind the last", x.shifted(LAST, 1), NONE);
        due("to the last", x.shifted(FIRST, 109572), LAST);
        due("behind the last", x.shifted(FIRST, 109573), NONE);
        due("to the first", x.shifted(LAST, -109572), FIRST);
        due("before the first", x.shifted(LAST, -109573), NONE);
        for (int date : new int[] {FIRST, 20240229, LAST}) {
            due("the greatest", x.shifted(date, Integer.MAX_VALUE), NONE);
            due("the least", x.shifted(date, Integer.MIN_VALUE), NONE);
            due("the least but one", x.shifted(date, Integer.MIN_VALUE + 1), NONE);
        }
    }

    private static void shiftedOverEnds() {
        RuledCalendar x = new RuledCalendar();
        int[][] pairs = {{20240131, 20240201}, {20240228, 20240229}, {20240229, 20240301}, {20230228, 20230301},
            {19000228, 19000301}, {20000228, 20000229}, {20000229, 20000301}, {21000228, 21000301},
            {20240430, 20240501}, {20231231, 20240101}, {19991231, 20000101}, {20991231, 21000101},
            {21991230, LAST}, {FIRST, 19000102}};
        for (int[] pair : pairs) {
            due(pair[0] + " and a day", x.shifted(pair[0], 1), pair[1]);
            due(pair[1] + " less a day", x.shifted(pair[1], -1), pair[0]);
        }
        due("a leap year", x.shifted(20240101, 366), 20250101);
        due("another year", x.shifted(20230101, 365), 20240101);
        due("400 years less 100", x.shifted(FIRST, 36524), 20000101);
    }

    // Terms: the exception named first

    private static void firstNamedException() {
        RuledCalendar x = full();
        x.drop(3);
        for (int thing : new int[] {3, -1, 12, Integer.MAX_VALUE, Integer.MIN_VALUE}) {
            for (int date : new int[] {0, 20230229, 22000101, Integer.MIN_VALUE}) {
                refused("except", INDEX, () -> x.except(thing, date, true));
                refused("besides", INDEX, () -> x.besides(thing, date, false));
                refused("comes", INDEX, () -> x.comes(thing, date));
                refused("next", INDEX, () -> x.next(thing, date));
                refused("times, both wrong", INDEX, () -> x.times(thing, date, date));
                refused("times, from wrong", INDEX, () -> x.times(thing, date, 20240101));
                refused("times, to wrong", INDEX, () -> x.times(thing, 20240101, date));
            }
            refused("date", INDEX, () -> x.date(thing, -1));
            refused("date", INDEX, () -> x.date(thing, Integer.MIN_VALUE));
        }
    }

    private static void noDateIsRefused() {
        for (int date : NO_DATES) {
            RuledCalendar x = with("FREQ=DAILY", 20240101);
            refused("thing " + date, ARGUMENT, () -> x.thing(date));
            refused("except " + date, ARGUMENT, () -> x.except(0, date, true));
            refused("except off " + date, ARGUMENT, () -> x.except(0, date, false));
            refused("besides " + date, ARGUMENT, () -> x.besides(0, date, true));
            refused("besides off " + date, ARGUMENT, () -> x.besides(0, date, false));
            refused("comes " + date, ARGUMENT, () -> x.comes(0, date));
            refused("next " + date, ARGUMENT, () -> x.next(0, date));
            refused("times from " + date, ARGUMENT, () -> x.times(0, date, 20240101));
            refused("times to " + date, ARGUMENT, () -> x.times(0, 20240101, date));
            refused("list from " + date, ARGUMENT, () -> x.list(date, 20240101));
            refused("list to " + date, ARGUMENT, () -> x.list(20240101, date));
            refused("busiest from " + date, ARGUMENT, () -> x.busiest(date, 20240101));
            refused("busiest to " + date, ARGUMENT, () -> x.busiest(20240101, date));
            refused("quiet " + date, ARGUMENT, () -> x.quiet(date, 1));
            refused("shifted " + date, ARGUMENT, () -> x.shifted(date, 0));
        }
    }

    private static void fiveHundredAndTwelveCalls() {
        RuledCalendar x = full();
        for (int calls = 15; calls < 511; calls++) {
            x.except(calls % 12, 20240201 + calls % 28, calls % 3 == 0);
        }
        due("call 512", x.date(11, 0), 20240112);
    }

    private static void textAndThings() {
        sentence("1: an empty text", MethodsEdgesTest::newTextIsEmpty);
        sentence("1: no things", MethodsEdgesTest::newHasNoThings);
        sentence("1: a new object for itself", MethodsEdgesTest::objectsAreApart);
        sentence("2: n is not 1 to 8", MethodsEdgesTest::feedTakesOneToEight);
        sentence("2: the n lowest bytes, the lowest first", MethodsEdgesTest::feedTakesLowestBytesFirst);
        sentence("2: NONE when there would be more than 200", MethodsEdgesTest::feedUpToTwoHundred);
        sentence("2: a text of 200 bytes", MethodsEdgesTest::ruleOfTwoHundred);
        sentence("3: answers how many bytes it had", MethodsEdgesTest::wipeAnswersHowMany);
        sentence("3: the text is empty then", MethodsEdgesTest::wipeLeavesNothingOfText);
        sentence("4: NONE when there are 12", MethodsEdgesTest::thingsUpToTwelve);
        sentence("4: the least that is free", MethodsEdgesTest::thingTakesLeastNumber);
        sentence("4: NONE when the rule has a fault (the text stays)", MethodsEdgesTest::thingWithFault);
        sentence("4: the text as its rule", MethodsEdgesTest::nothingOfTheRuleBefore);
        sentence("4: start is no date", MethodsEdgesTest::thingWithWrongStart);
        sentence("5, 6: 0 and NONE when there was none", MethodsEdgesTest::faultOfNone);
        sentence("5, 6: the fault with the last thing()", MethodsEdgesTest::faultOfLastThing);
        sentence("5, 6: for which there was a number free", MethodsEdgesTest::faultWithNoNumberFree);
        sentence("6: places at the text's edges", MethodsEdgesTest::placeAtTheEdges);
        sentence("7: there is none", MethodsEdgesTest::dropOfNone);
        sentence("7: a thing is gone", MethodsEdgesTest::goneWithAllItsDays);
        sentence("8: an exception, or none any more", MethodsEdgesTest::exceptOnAndOff);
        sentence("9: a day besides, or none any more", MethodsEdgesTest::besidesOnAndOff);
        sentence("8, 9: besides, but no exceptions", MethodsEdgesTest::exceptAndBesidesAreApart);
        sentence("8: nothing is left", MethodsEdgesTest::allDatesAreExceptions);
    }

    private static void questions() {
        sentence("10 to 17: exceptions and days besides",
                MethodsEdgesTest::questionsKnowExceptionsAndDaysBesides);
        sentence("10: at a date", MethodsEdgesTest::comesAtTheEdges);
        sentence("11: behind another one; NONE when there is none", MethodsEdgesTest::nextAtTheEdges);
        sentence("12: 0 is the first one; NONE when there are not so many", MethodsEdgesTest::dateAtTheEdges);
        sentence("13: from one date up to another one", MethodsEdgesTest::timesAtTheEdges);
        sentence("14: the first 300", MethodsEdgesTest::listUpToThreeHundred);
        sentence("14: at one date by the things' numbers", MethodsEdgesTest::listIsCutWithinADate);
        sentence("14: from one date up to another one", MethodsEdgesTest::listFromUpTo);
        sentence("15: place i of the last list; there is nothing", MethodsEdgesTest::itemsOfTheLastList);
        sentence("16: at which the most things come", MethodsEdgesTest::busiestByHowMany);
        sentence("16: the first one of such", MethodsEdgesTest::busiestFirstOfSuch);
        sentence("16: NONE when none comes", MethodsEdgesTest::busiestOfNone);
        sentence("17: n is not 1 to 1000", MethodsEdgesTest::quietTakesOneToThousand);
        sentence("17: all of them up to 21991231", MethodsEdgesTest::quietUpToTheEnd);
        sentence("17: the first date, not before one", MethodsEdgesTest::quietBetween);
        sentence("18: NONE when it is none", MethodsEdgesTest::shiftedWithinAll);
        sentence("18: behind one, or before it", MethodsEdgesTest::shiftedOverEnds);
        sentence("the exception named first", MethodsEdgesTest::firstNamedException);
        sentence("a date that is none", MethodsEdgesTest::noDateIsRefused);
        sentence("512 calls", MethodsEdgesTest::fiveHundredAndTwelveCalls);
    }

    public static void main(String[] args) {
        textAndThings();
        questions();
        end();
    }
}
