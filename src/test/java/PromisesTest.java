import java.lang.reflect.Member;
import java.lang.reflect.Modifier;
import java.util.ArrayList;
import java.util.Arrays;
import java.util.List;
import java.util.Set;
import java.util.TreeSet;

/** For each promise of the document: ordinary inputs, the edges that it names, and wrong inputs. */
public final class PromisesTest extends Checks {
    private static final String[] FACE = {
        "public static final int RuledCalendar.NONE",
        "public RuledCalendar()",
        "public int RuledCalendar.feed(int,long) throws java.lang.IllegalArgumentException",
        "public int RuledCalendar.wipe()",
        "public int RuledCalendar.thing(int) throws java.lang.IllegalArgumentException",
        "public int RuledCalendar.fault()",
        "public int RuledCalendar.place()",
        "public void RuledCalendar.drop(int) throws java.lang.IndexOutOfBoundsException",
        "public boolean RuledCalendar.except(int,int,boolean) throws BOTH",
        "public boolean RuledCalendar.besides(int,int,boolean) throws BOTH",
        "public boolean RuledCalendar.comes(int,int) throws BOTH",
        "public int RuledCalendar.next(int,int) throws BOTH",
        "public int RuledCalendar.date(int,int) throws BOTH",
        "public int RuledCalendar.times(int,int,int) throws BOTH",
        "public int RuledCalendar.list(int,int) throws java.lang.IllegalArgumentException",
        "public long RuledCalendar.item(int) throws java.lang.IndexOutOfBoundsException",
        "public int RuledCalendar.busiest(int,int) throws java.lang.IllegalArgumentException",
        "public int RuledCalendar.quiet(int,int) throws java.lang.IllegalArgumentException",
        "public int RuledCalendar.shifted(int,int) throws java.lang.IllegalArgumentException",
    };

    private static void face() {
        Set<String> want = new TreeSet<>();
        for (String line : FACE) {
            want.add(line.replace("BOTH",
                    "java.lang.IndexOutOfBoundsException,java.lang.IllegalArgumentException"));
        }
        Set<String> got = new TreeSet<>();
        List<Member> members = new ArrayList<>(Arrays.asList(RuledCalendar.class.getDeclaredMethods()));
        members.addAll(Arrays.asList(RuledCalendar.class.getDeclaredFields()));
        members.addAll(Arrays.asList(RuledCalendar.class.getDeclaredConstructors()));
        for (Member m : members) {
            if (!m.isSynthetic() && !Modifier.isPrivate(m.getModifiers())) {
                got.add(m.toString());
            }
        }
        due("the face", got, want);
        due("the class", Modifier.toString(RuledCalendar.class.getModifiers()), "public final");
        due("NONE", NONE, -1);
    }

    private static void promise1New() {
        RuledCalendar x = new RuledCalendar();
        due("new wipe", x.wipe(), 0);
        due("new fault", x.fault(), 0);
        due("new place", x.place(), NONE);
        due("new list", x.list(19000101, 21991231), 0);
        due("new busiest", x.busiest(19000101, 21991231), NONE);
        for (int i = -1; i < 13; i++) {
            int thing = i;
            refused("new drop " + i, INDEX, () -> drop(x, thing));
        }
        refused("new item", INDEX, () -> new RuledCalendar().item(0));
        RuledCalendar one = new RuledCalendar();
        RuledCalendar other = new RuledCalendar();
        make(one, "FREQ=DAILY", 20240101);
        due("objects are apart", other.wipe(), 0);
        due("objects are apart", other.list(20240101, 20240102), 0);
    }

    private static void promise2Feed() {
        RuledCalendar x = new RuledCalendar();
        due("feed all of a long", x.feed(8, 0x3d51455246L | 0x494144L << 40), 8);
        due("feed leaves the upper bytes", x.feed(2, 0x7777777777770000L | 'L' | 'Y' << 8), 10);
        due("what was fed", x.thing(20240101), 0);
        for (int n : new int[] {0, 9, -1, Integer.MIN_VALUE, Integer.MAX_VALUE}) {
            refused("feed " + n, ARGUMENT, () -> x.feed(n, 1));
        }
        due("refused feeds change nothing", x.wipe(), 10);
        for (int i = 1; i <= 24; i++) {
            due("feed up to " + 8 * i, x.feed(8, -1L), 8 * i);
        }
        due("feed 199", x.feed(7, 0), 199);
        due("feed 201", x.feed(2, 0), NONE);
        due("feed 200", x.feed(1, 0), 200);
        due("feed beyond 200", x.feed(1, 0), NONE);
        refused("a wrong n before a full text", ARGUMENT, () -> x.feed(9, 0));
        due("200 stay", x.wipe(), 200);
        StringBuilder full = new StringBuilder("INTERVAL=2;FREQ=DAILY;BYMONTH=");
        while (full.length() < 199) {
            full.append('0');
        }
        due("a rule of 200 bytes", make(x, full.append('1').toString(), 20240101), 1);
        due("its second date", x.date(1, 1), 20240103);
        fault("FREQ=DAILY\u0000", 1, 10);
        fault("FREQ=DAILY\u00bb", 1, 10);
    }

    private static void promise3Wipe() {
        RuledCalendar x = new RuledCalendar();
        x.feed(3, 0);
        due("wipe", x.wipe(), 3);
        due("wipe again", x.wipe(), 0);
        due("a rule after wipe", make(x, "FREQ=DAILY", 20240101), 0);
        due("wipe leaves things", x.wipe(), 10);
        due("wipe leaves things", x.comes(0, 20240101), true);
        due("an empty text is no rule", x.thing(20240101), NONE);
        due("wiped bytes are gone", make(x, "FREQ=DAIL", 20240101), NONE);
        due("wiped bytes are gone", make(x, "FREQ=DAILY;COUNT=1000", 20240101), NONE);
        due("wiped bytes are gone", make(x, "FREQ=DAILY;COUNT=100", 20240101), 1);
    }

    private static void promise4Thing() {
        RuledCalendar x = new RuledCalendar();
        write(x, "FREQ=DAILY");
        for (int wrongDate : NO_DATES) {
            refused("thing " + wrongDate, ARGUMENT, () -> x.thing(wrongDate));
        }
        for (int i = 0; i < 12; i++) {
            due("thing", x.thing(20240101 + i), i);
        }
        due("a thirteenth", x.thing(20240101), NONE);
        refused("a wrong date before too many", ARGUMENT, () -> x.thing(0));
        x.drop(7);
        x.drop(3);
        due("the least free", x.thing(20240301), 3);
        due("its start", x.date(3, 0), 20240301);
        due("the next free", x.thing(20240301), 7);
        due("the text stays", x.wipe(), 10);
        due("others stay", x.date(4, 0), 20240105);
        x.drop(0);
        due("a fault makes none", make(x, "FREQ=HOURLY", 20240101), NONE);
        refused("a fault makes none", INDEX, () -> x.comes(0, 20240101));
        due("a number stays free", make(x, "FREQ=YEARLY", 20240101), 0);
    }

    private static void promises5And6Fault() {
        RuledCalendar x = new RuledCalendar();
        make(x, "FREQ=DAILY;COUNT=0", 20240101);
        due("fault", x.fault(), 2);
        due("place", x.place(), 17);
        refused("a thing that throws", ARGUMENT, () -> x.thing(0));
        due("leaves the fault", x.fault(), 2);
        x.wipe();
        due("wipe leaves the fault", x.fault(), 2);
        due("wipe leaves its place", x.place(), 17);
        write(x, "FREQ=DAILY");
        for (int i = 0; i < 12; i++) {
            x.thing(20240101);
        }
        due("no fault", x.fault(), 0);
        due("no place", x.place(), NONE);
        make(x, "FREQ", 20240101);
        due("no number free: the fault before", x.fault(), 0);
        x.drop(11);
        x.thing(20240101);
        due("a number free", x.fault(), 1);
        due("a number free", x.place(), 4);
        make(x, "FREQ=DAILY", 20240101);
        write(x, "FREQ");
        x.thing(20240101);
        due("full again: the fault before", x.place(), NONE);
        faultsOfBytes();
        faultsOfNumbers();
        faultsOfWholes();
    }

    private static void faultsOfBytes() {
        fault("", 1, 0);
        fault(";", 1, 0);
        fault("=DAILY", 1, 0);
        fault(" FREQ=DAILY", 1, 0);
        fault("FREQ", 1, 4);
        fault("FREQ DAILY", 1, 4);
        fault("FREQ=", 1, 5);
        fault("FREQ=;", 1, 5);
        fault("FREQ=1", 1, 5);
        fault("FREQ=DAIL", 1, 5);
        fault("FREQ=DAILYX", 1, 5);
        fault("FREQ=DAILYZ", 1, 5);
        fault("FREQ=DAILYA", 1, 5);
        fault("FREQ=DAILY[", 1, 10);
        fault("FREQ=DAILY@", 1, 10);
        fault("FREQ=DAILY1", 1, 10);
        fault("FREQ=DAILY,WEEKLY", 1, 10);
        fault("FREQ=DAILY=", 1, 10);
        fault("FREQ=DAILY;", 1, 11);
        fault("FREQ=DAILY;;COUNT=1", 1, 11);
        fault("FREQS=DAILY", 1, 0);
        fault("FREQ=DAILY;BY", 1, 11);
        fault("FREQ=DAILY;BYmonth=1", 1, 11);
        fault("FREQ=DAILY;FREQ", 3, 11);
        fault("FREQ=DAILY;COUNT=1;COUNT=2000", 3, 19);
        fault("FREQ=DAILY;COUNT=", 1, 17);
        fault("FREQ=DAILY;COUNT=1,2", 1, 18);
        fault("FREQ=DAILY;COUNT=-1", 1, 17);
        fault("FREQ=DAILY;COUNT=1 ", 1, 18);
        fault("FREQ=DAILY;UNTIL=+20240101", 1, 17);
        fault("FREQ=DAILY;BYMONTH=1,", 1, 21);
        fault("FREQ=DAILY;BYMONTH=,1", 1, 19);
        fault("FREQ=DAILY;BYMONTH=+1", 1, 19);
        fault("FREQ=DAILY;BYMONTHDAY=-", 1, 23);
        fault("FREQ=DAILY;BYMONTHDAY=--1", 1, 23);
        fault("FREQ=DAILY;BYDAY=", 1, 17);
        fault("FREQ=DAILY;BYDAY=1", 1, 18);
        fault("FREQ=DAILY;BYDAY=+MO", 1, 18);
        fault("FREQ=DAILY;BYDAY=M", 1, 18);
        fault("FREQ=DAILY;BYDAY=M,TU", 1, 18);
        fault("FREQ=DAILY;BYDAY=mo", 1, 17);
        fault("FREQ=DAILY;BYDAY=MX", 1, 17);
        fault("FREQ=DAILY;BYDAY=1XO", 1, 18);
        fault("FREQ=DAILY;BYDAY=OT", 1, 17);
        fault("FREQ=DAILY;BYDAY=MON", 1, 19);
        fault("FREQ=DAILY;BYDAY=MO1", 1, 19);
        fault("FREQ=DAILY;BYDAY=MO,", 1, 20);
    }

    private static void faultsOfNumbers() {
        fault("FREQ=DAILY;INTERVAL=0", 2, 20);
        fault("FREQ=DAILY;INTERVAL=1", 0, NONE);
        fault("FREQ=DAILY;INTERVAL=400", 0, NONE);
        fault("FREQ=DAILY;INTERVAL=401", 2, 20);
        fault("FREQ=DAILY;INTERVAL=4294967297", 2, 20);
        fault("FREQ=DAILY;INTERVAL=18446744073709551617", 2, 20);
        fault("FREQ=DAILY;INTERVAL=00000000000000000000001", 0, NONE);
        fault("FREQ=DAILY;COUNT=0", 2, 17);
        fault("FREQ=DAILY;COUNT=999", 0, NONE);
        fault("FREQ=DAILY;COUNT=1000", 2, 17);
        fault("FREQ=DAILY;COUNT=1000x", 2, 17);
        fault("FREQ=DAILY;UNTIL=20240229", 0, NONE);
        fault("FREQ=DAILY;UNTIL=0020240229", 0, NONE);
        fault("FREQ=DAILY;UNTIL=19000101", 0, NONE);
        fault("FREQ=DAILY;UNTIL=21991231", 0, NONE);
        fault("FREQ=DAILY;UNTIL=18991231", 2, 17);
        fault("FREQ=DAILY;UNTIL=22000101", 2, 17);
        fault("FREQ=DAILY;UNTIL=20230229", 2, 17);
        fault("FREQ=DAILY;UNTIL=0", 2, 17);
        fault("FREQ=DAILY;BYMONTH=0", 2, 19);
        fault("FREQ=DAILY;BYMONTH=12", 0, NONE);
        fault("FREQ=DAILY;BYMONTH=1,13", 2, 21);
        fault("FREQ=DAILY;BYMONTHDAY=0", 2, 22);
        fault("FREQ=DAILY;BYMONTHDAY=-0", 2, 22);
        fault("FREQ=DAILY;BYMONTHDAY=+31,-31,031", 0, NONE);
        fault("FREQ=DAILY;BYMONTHDAY=32", 2, 22);
        fault("FREQ=DAILY;BYMONTHDAY=-32", 2, 22);
        fault("FREQ=YEARLY;BYMONTH=1;BYSETPOS=366,-366", 0, NONE);
        fault("FREQ=YEARLY;BYMONTH=1;BYSETPOS=367", 2, 31);
        fault("FREQ=YEARLY;BYMONTH=1;BYSETPOS=1,-367", 2, 33);
        fault("FREQ=YEARLY;BYMONTH=1;BYSETPOS=0", 2, 31);
        fault("FREQ=YEARLY;BYDAY=53MO,-53SU,+1TU,01WE", 0, NONE);
        fault("FREQ=YEARLY;BYDAY=54MO", 2, 18);
        fault("FREQ=YEARLY;BYDAY=-54MO", 2, 18);
        fault("FREQ=YEARLY;BYDAY=0MO", 2, 18);
        fault("FREQ=YEARLY;BYDAY=54XX", 2, 18);
        fault("FREQ=YEARLY;BYDAY=54", 2, 18);
    }

    private static void faultsOfWholes() {
        fault("COUNT=1", 4, 7);
        fault("COUNT=1;FREQ=DAILY", 0, NONE);
        fault("FREQ=DAILY;COUNT=1;UNTIL=20240101", 4, 33);
        fault("FREQ=DAILY;COUNT=1;UNTIL=20240101;", 1, 34);
        fault("FREQ=WEEKLY;BYMONTHDAY=1", 4, 24);
        fault("BYMONTHDAY=1;FREQ=WEEKLY", 4, 24);
        fault("FREQ=DAILY;BYMONTHDAY=1", 0, NONE);
        fault("FREQ=DAILY;BYDAY=1MO", 4, 20);
        fault("FREQ=WEEKLY;BYDAY=MO,-1MO", 4, 25);
        fault("FREQ=MONTHLY;BYDAY=1MO", 0, NONE);
        fault("FREQ=MONTHLY;BYDAY=1MO;BYMONTHDAY=1", 4, 35);
        fault("FREQ=YEARLY;BYDAY=1MO;BYMONTHDAY=1", 4, 34);
        fault("FREQ=MONTHLY;BYDAY=MO;BYMONTHDAY=1", 0, NONE);
        fault("FREQ=MONTHLY;BYSETPOS=1", 4, 23);
        fault("FREQ=MONTHLY;BYSETPOS=1;BYMONTH=1", 0, NONE);
        fault("FREQ=MONTHLY;BYSETPOS=1;BYMONTHDAY=1", 0, NONE);
        fault("FREQ=MONTHLY;BYSETPOS=1;BYDAY=MO", 0, NONE);
    }

    private static void promise7Drop() {
        RuledCalendar x = new RuledCalendar();
        make(x, "FREQ=DAILY;COUNT=3", 20240101);
        make(x, "FREQ=DAILY;COUNT=3", 20240101);
        x.except(0, 20240102, true);
        x.besides(0, 20250101, true);
        x.list(20240101, 20240131);
        x.drop(0);
        due("the list stays", x.item(0), 16L * 20240101);
        refused("a dropped thing", INDEX, () -> x.date(0, 0));
        refused("a dropped thing", INDEX, () -> drop(x, 0));
        for (int thing : new int[] {-1, 2, 12, Integer.MIN_VALUE, Integer.MAX_VALUE}) {
            refused("drop " + thing, INDEX, () -> drop(x, thing));
        }
        due("the other one stays", x.times(1, 19000101, 21991231), 3);
        due("it is listed no more", x.list(20240101, 20240131), 3);
        due("its number is free", x.thing(20240101), 0);
        due("its exceptions are gone", x.comes(0, 20240102), true);
        due("its days besides are gone", x.comes(0, 20250101), false);
    }

    private static void promise8Except() {
        RuledCalendar x = new RuledCalendar();
        make(x, "FREQ=DAILY;COUNT=3", 20240101);
        due("it was none", x.except(0, 20240102, true), false);
        due("it was one", x.except(0, 20240102, true), true);
        due("not at exceptions", x.comes(0, 20240102), false);
        due("exceptions count for COUNT", x.date(0, 2), NONE);
        due("no more", x.except(0, 20240102, false), true);
        due("no more", x.except(0, 20240102, false), false);
        due("it comes again", x.comes(0, 20240102), true);
        due("where it does not come", x.except(0, 20300101, true), false);
        due("where it does not come", x.except(0, 20300101, false), true);
        due("the edges", x.except(0, 19000101, true) || x.except(0, 21991231, true), false);
        due("a 31st", x.except(0, 20240131, true), false);
        due("a 31st", x.except(0, 20240131, true), true);
        refused("no such thing", INDEX, () -> x.except(1, 20240101, true));
        refused("no such thing, no date", INDEX, () -> x.except(1, 0, true));
        for (int wrongDate : NO_DATES) {
            refused("except " + wrongDate, ARGUMENT, () -> x.except(0, wrongDate, true));
        }
    }

    private static void promise9Besides() {
        RuledCalendar x = new RuledCalendar();
        make(x, "FREQ=DAILY;UNTIL=20240103", 20240101);
        due("it was none", x.besides(0, 20231231, true), false);
        due("it was one", x.besides(0, 20231231, true), true);
        due("before the start", x.date(0, 0), 20231231);
        x.besides(0, 20240104, true);
        due("behind UNTIL", x.date(0, 4), 20240104);
        x.besides(0, 20240102, true);
        due("once only", x.times(0, 20240101, 20240103), 3);
        x.except(0, 20240104, true);
        due("exceptions are stronger", x.comes(0, 20240104), false);
        x.except(0, 20240104, false);
        due("it is still one", x.comes(0, 20240104), true);
        due("no more", x.besides(0, 20240104, false), true);
        due("no more", x.comes(0, 20240104), false);
        due("no more", x.besides(0, 20240102, false), true);
        due("the rule's day stays", x.comes(0, 20240102), true);
        RuledCalendar y = new RuledCalendar();
        make(y, "FREQ=DAILY;COUNT=2", 20240101);
        y.besides(0, 20231231, true);
        due("it does not count for COUNT", y.comes(0, 20240102), true);
        refused("no such thing", INDEX, () -> x.besides(12, 20240101, true));
        refused("no such thing, no date", INDEX, () -> x.besides(-1, 0, true));
        for (int wrongDate : NO_DATES) {
            refused("besides " + wrongDate, ARGUMENT, () -> x.besides(0, wrongDate, true));
        }
    }

    private static void promise10Comes() {
        RuledCalendar x = new RuledCalendar();
        make(x, "FREQ=WEEKLY", 20240101);
        due("at the start", x.comes(0, 20240101), true);
        due("between", x.comes(0, 20240102), false);
        due("a week before", x.comes(0, 20231225), false);
        due("later", x.comes(0, 20240108), true);
        due("the last Monday of all", x.comes(0, 21991230), true);
        refused("no such thing", INDEX, () -> x.comes(1, 20240101));
        refused("no such thing, no date", INDEX, () -> x.comes(1, 0));
        for (int wrongDate : NO_DATES) {
            refused("comes " + wrongDate, ARGUMENT, () -> x.comes(0, wrongDate));
        }
    }

    private static void promise11Next() {
        RuledCalendar x = new RuledCalendar();
        make(x, "FREQ=MONTHLY;BYMONTHDAY=-1,1", 20240131);
        due("before the start", x.next(0, 19000101), 20240131);
        due("behind, not at", x.next(0, 20240131), 20240201);
        due("behind a month's last", x.next(0, 20240229), 20240301);
        due("the last one", x.next(0, 21991230), 21991231);
        due("none", x.next(0, 21991231), NONE);
        refused("no such thing", INDEX, () -> x.next(-1, 20240101));
        refused("no such thing, no date", INDEX, () -> x.next(12, 0));
        for (int wrongDate : NO_DATES) {
            refused("next " + wrongDate, ARGUMENT, () -> x.next(0, wrongDate));
        }
    }

    private static void promise12Date() {
        RuledCalendar x = new RuledCalendar();
        make(x, "FREQ=DAILY;COUNT=999", 20240101);
        due("the first", x.date(0, 0), 20240101);
        due("within a month", x.date(0, 30), 20240131);
        due("in the next month", x.date(0, 31), 20240201);
        due("the last", x.date(0, 998), x.shifted(20240101, 998));
        due("behind the last", x.date(0, 999), NONE);
        due("far behind", x.date(0, Integer.MAX_VALUE), NONE);
        refused("below 0", ARGUMENT, () -> x.date(0, -1));
        refused("below 0", ARGUMENT, () -> x.date(0, Integer.MIN_VALUE));
        refused("no such thing, below 0", INDEX, () -> x.date(1, -1));
        ruleDates();
    }

    private static void ruleDates() {
        dates("FREQ=DAILY;INTERVAL=400", 21980101, 21980101, 21990205, 0);
        dates("FREQ=DAILY;UNTIL=20240101", 20240102, 0);
        dates("FREQ=DAILY;UNTIL=20240102", 20240102, 20240102, 0);
        dates("FREQ=DAILY;BYSETPOS=2;BYMONTH=1", 20240101, 0);
        dates("FREQ=DAILY;BYSETPOS=-1;BYMONTH=1;COUNT=2", 20240131, 20240131, 20250101, 0);
        dates("FREQ=DAILY;INTERVAL=2;BYDAY=MO", 20240101, 20240101, 20240115);
        dates("FREQ=WEEKLY;INTERVAL=2;BYDAY=SU,MO", 20240103, 20240107, 20240115, 20240121, 20240129);
        dates("FREQ=WEEKLY;BYMONTH=2", 20240101, 20240205, 20240212, 20240219, 20240226, 20250203);
        dates("FREQ=WEEKLY;BYDAY=TU,TH,SA;BYSETPOS=-1,1", 20240105, 20240106, 20240109, 20240113);
        dates("FREQ=WEEKLY;BYDAY=MO,FR;BYSETPOS=2", 20231230, 20240105, 20240112);
        dates("FREQ=WEEKLY;BYDAY=MO,FR;BYSETPOS=2", 20250102, 20250103, 20250110);
        dates("FREQ=WEEKLY;BYDAY=MO,FR;BYSETPOS=-1;UNTIL=20241231", 20241225, 20241227, 0);
        dates("FREQ=WEEKLY;BYDAY=MO,FR;BYSETPOS=-1", 21991220, 21991220, 21991227, 21991230, 0);
        dates("FREQ=MONTHLY", 20240131, 20240131, 20240331, 20240531);
        dates("FREQ=MONTHLY;BYMONTH=2", 20240130, 0);
        dates("FREQ=MONTHLY;INTERVAL=13;BYMONTHDAY=1", 20240102, 20250201, 20260301);
        dates("FREQ=MONTHLY;BYMONTHDAY=-31,-30", 20240215, 20240301, 20240302, 20240401, 20240501);
        dates("FREQ=MONTHLY;BYMONTHDAY=13;BYDAY=FR", 20240101, 20240913, 20241213);
        dates("FREQ=MONTHLY;BYDAY=5MO,-5TU", 20240101, 20240102, 20240129, 20240402, 20240429, 20240702);
        dates("FREQ=MONTHLY;BYDAY=6MO,53TU,-6WE", 20240101, 0);
        dates("FREQ=MONTHLY;BYDAY=1MO,TU;COUNT=3", 20240101, 20240101, 20240102, 20240109, 0);
        dates("FREQ=YEARLY", 20240229, 20240229, 20280229);
        dates("FREQ=YEARLY;BYMONTH=2,3", 20240115, 20240215, 20240315, 20250215);
        dates("FREQ=YEARLY;BYMONTHDAY=31", 20240401, 20240531, 20240731);
        dates("FREQ=YEARLY;BYDAY=1MO,-1MO,53TU", 20240101, 20240101, 20241230, 20241231, 20250106);
        dates("FREQ=YEARLY;BYDAY=1MO,-1MO;BYMONTH=3", 20240101, 20240304, 20240325, 20250303);
        dates("FREQ=YEARLY;BYDAY=MO,TU,WE,TH,FR,SA,SU;BYSETPOS=366,-366", 20230101, 20240101, 20241231, 20280101);
        dates("FREQ=YEARLY;BYMONTH=1,6;BYSETPOS=2", 20240615, 20240615, 20250615);
        dates("FREQ=YEARLY;INTERVAL=100;BYMONTH=2;BYMONTHDAY=29", 19000101, 20000229, 0);
        dates("FREQ=YEARLY;BYMONTH=12;BYMONTHDAY=31;UNTIL=20241231", 20230101, 20231231, 20241231, 0);
        dates("FREQ=YEARLY;BYDAY=SU;BYSETPOS=-1;UNTIL=20241228", 20240101, 0);
    }

    private static void promise13Times() {
        RuledCalendar x = new RuledCalendar();
        make(x, "FREQ=DAILY", 20240101);
        due("one day", x.times(0, 20240131, 20240131), 1);
        due("in a month", x.times(0, 20240110, 20240120), 11);
        due("over an end", x.times(0, 20240131, 20240301), 31);
        due("all", x.times(0, 19000101, 20241231), 366);
        due("backwards", x.times(0, 20240102, 20240101), 0);
        due("far backwards", x.times(0, 20250101, 20240101), 0);
        refused("no such thing", INDEX, () -> x.times(1, 20240101, 20240101));
        refused("no such thing, no date", INDEX, () -> x.times(1, 0, 0));
        for (int wrongDate : NO_DATES) {
            refused("from " + wrongDate, ARGUMENT, () -> x.times(0, wrongDate, 20240101));
            refused("to " + wrongDate, ARGUMENT, () -> x.times(0, 20240101, wrongDate));
        }
    }

    private static void promises14And15List() {
        RuledCalendar x = new RuledCalendar();
        make(x, "FREQ=DAILY;INTERVAL=2", 20240101);
        make(x, "FREQ=DAILY;INTERVAL=3", 20240101);
        due("list", x.list(20240101, 20240104), 4);
        due("item 0", x.item(0), 16L * 20240101);
        due("item 1", x.item(1), 16L * 20240101 + 1);
        due("item 2", x.item(2), 16L * 20240103);
        due("item 3", x.item(3), 16L * 20240104 + 1);
        for (int i : new int[] {-1, 4, 300, Integer.MIN_VALUE, Integer.MAX_VALUE}) {
            refused("item " + i, INDEX, () -> x.item(i));
        }
        for (int wrongDate : NO_DATES) {
            refused("from " + wrongDate, ARGUMENT, () -> x.list(wrongDate, 20240101));
            refused("to " + wrongDate, ARGUMENT, () -> x.list(20240101, wrongDate));
        }
        x.except(1, 20240104, true);
        due("the last list stays", x.item(3), 16L * 20240104 + 1);
        due("the first 300", x.list(20240101, 21991231), 300);
        due("item 299", x.item(299), 16L * x.shifted(20240101, 360));
        refused("item 300", INDEX, () -> x.item(300));
        due("backwards", x.list(20240102, 20240101), 0);
        refused("an empty list", INDEX, () -> x.item(0));
    }

    private static void promise16Busiest() {
        RuledCalendar x = new RuledCalendar();
        for (int i = 1; i <= 12; i++) {
            make(x, "FREQ=DAILY;INTERVAL=" + i, 20240101);
        }
        due("all at the start", x.busiest(19000101, 21991231), 20240101);
        due("six at day 12", x.busiest(20240102, 20240120), 20240113);
        due("the first of such", x.busiest(20240102, 20240106), 20240105);
        due("one day", x.busiest(20240102, 20240102), 20240102);
        due("none", x.busiest(20230101, 20231231), NONE);
        due("backwards", x.busiest(20240102, 20240101), NONE);
        x.except(0, 20240102, true);
        due("none there", x.busiest(20240102, 20240102), NONE);
        for (int wrongDate : NO_DATES) {
            refused("from " + wrongDate, ARGUMENT, () -> x.busiest(wrongDate, 20240101));
            refused("to " + wrongDate, ARGUMENT, () -> x.busiest(20240101, wrongDate));
        }
    }

    private static void promise17Quiet() {
        RuledCalendar x = new RuledCalendar();
        make(x, "FREQ=DAILY;INTERVAL=3", 20240101);
        due("before all", x.quiet(19000101, 1000), 19000101);
        due("the last 2 before", x.quiet(20231230, 2), 20231230);
        due("3 are too many", x.quiet(20231230, 3), NONE);
        due("behind the first", x.quiet(20240101, 2), 20240102);
        due("a part of a pause", x.quiet(20240103, 1), 20240103);
        due("the pause behind", x.quiet(20240103, 2), 20240105);
        make(x, "FREQ=DAILY;INTERVAL=3", 20240102);
        make(x, "FREQ=DAILY;INTERVAL=3", 20240103);
        due("never", x.quiet(20240101, 1), NONE);
        x.drop(0);
        x.drop(1);
        x.drop(2);
        due("up to the end", x.quiet(21991231, 1), 21991231);
        due("beyond the end", x.quiet(21991231, 2), NONE);
        due("1000 up to the end", x.quiet(21970406, 1000), 21970406);
        due("1000 beyond the end", x.quiet(21970407, 1000), NONE);
        for (int n : new int[] {0, -1, 1001, Integer.MIN_VALUE, Integer.MAX_VALUE}) {
            refused("n " + n, ARGUMENT, () -> x.quiet(20240101, n));
        }
        for (int wrongDate : NO_DATES) {
            refused("quiet " + wrongDate, ARGUMENT, () -> x.quiet(wrongDate, 1));
        }
    }

    private static void promise18Shifted() {
        RuledCalendar x = new RuledCalendar();
        due("0", x.shifted(20240229, 0), 20240229);
        due("a leap day", x.shifted(20240228, 1), 20240229);
        due("no leap day in 2100", x.shifted(21000228, 1), 21000301);
        due("over a year", x.shifted(20231231, 1), 20240101);
        due("back", x.shifted(20240301, -1), 20240229);
        due("to the end", x.shifted(19000101, 109572), 21991231);
        due("beyond the end", x.shifted(19000101, 109573), NONE);
        due("to the beginning", x.shifted(21991231, -109572), 19000101);
        due("before it", x.shifted(21991231, -109573), NONE);
        due("far", x.shifted(21991231, Integer.MAX_VALUE), NONE);
        due("far back", x.shifted(19000101, Integer.MIN_VALUE), NONE);
        for (int wrongDate : NO_DATES) {
            refused("shifted " + wrongDate, ARGUMENT, () -> x.shifted(wrongDate, 1));
        }
    }

    public static void main(String[] args) {
        sentence("The public face", PromisesTest::face);
        sentence("Promise 1", PromisesTest::promise1New);
        sentence("Promise 2", PromisesTest::promise2Feed);
        sentence("Promise 3", PromisesTest::promise3Wipe);
        sentence("Promise 4", PromisesTest::promise4Thing);
        sentence("Promises 5 and 6", PromisesTest::promises5And6Fault);
        sentence("Promise 7", PromisesTest::promise7Drop);
        sentence("Promise 8", PromisesTest::promise8Except);
        sentence("Promise 9", PromisesTest::promise9Besides);
        sentence("Promise 10", PromisesTest::promise10Comes);
        sentence("Promise 11", PromisesTest::promise11Next);
        sentence("Promise 12", PromisesTest::promise12Date);
        sentence("Promise 13", PromisesTest::promise13Times);
        sentence("Promises 14 and 15", PromisesTest::promises14And15List);
        sentence("Promise 16", PromisesTest::promise16Busiest);
        sentence("Promise 17", PromisesTest::promise17Quiet);
        sentence("Promise 18", PromisesTest::promise18Shifted);
        end();
    }
}
