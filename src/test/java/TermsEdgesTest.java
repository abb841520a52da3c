import java.time.DateTimeException;
import java.time.LocalDate;
import java.util.ArrayList;
import java.util.Arrays;
import java.util.List;

/** The boundary cases that the document names under "Terms": dates, rules, faults, periods, days that suit. */
public final class TermsEdgesTest extends Checks {
    private static final String[] NAMES = {
        "FREQ", "INTERVAL", "COUNT", "UNTIL", "BYMONTH", "BYMONTHDAY", "BYSETPOS", "BYDAY"};
    /** What may stand behind each name. */
    private static final String[] VALUES = {"DAILY", "2", "3", "20240201", "1", "1", "1", "MO"};
    private static final String[] WEEKDAYS = {"MO", "TU", "WE", "TH", "FR", "SA", "SU"};
    private static final String ALL_WEEKDAYS = "MO,TU,WE,TH,FR,SA,SU";

    // Dates

    private static boolean isDate(int year, int month, int day) {
        try {
            LocalDate.of(year, month, day);
            return year >= 1900 && year <= 2199;
        } catch (DateTimeException e) {
            return false;
        }
    }

    private static void datesOfAllMonths() {
        for (int year = 1899; year <= 2200; year++) {
            RuledCalendar x = new RuledCalendar();
            for (int month = 0; month <= 13; month++) {
                for (int day : new int[] {0, 1, 27, 28, 29, 30, 31, 32, 99}) {
                    int date = year * 10000 + month * 100 + day;
                    due("shifted " + date, answer(() -> x.shifted(date, 0)),
                            isDate(year, month, day) ? "" + date : "throws IllegalArgumentException");
                }
            }
        }
    }

    private static void firstAndLastDate() {
        RuledCalendar x = with("FREQ=DAILY", FIRST);
        due("the first one", x.comes(0, FIRST), true);
        due("the last one", x.comes(0, LAST), true);
        refused("the day before", ARGUMENT, () -> x.comes(0, 18991231));
        refused("the day behind", ARGUMENT, () -> x.comes(0, 22000101));
        due("how many", x.times(0, FIRST, LAST), 109573);
        due("the last number", x.date(0, 109572), LAST);
        due("the number behind", x.date(0, 109573), NONE);
    }

    private static void leapDays() {
        RuledCalendar x = with("FREQ=YEARLY;BYMONTH=2;BYMONTHDAY=29", FIRST);
        due("4 divides", x.comes(0, 20240229), true);
        due("400 divides", x.comes(0, 20000229), true);
        refused("100 divides", ARGUMENT, () -> x.comes(0, 19000229));
        refused("100 divides", ARGUMENT, () -> x.comes(0, 21000229));
        refused("4 does not divide", ARGUMENT, () -> x.comes(0, 20230229));
        due("the first one", x.date(0, 0), 19040229);
        due("over 2000", x.next(0, 19960229), 20000229);
        due("over 2100", x.next(0, 20960229), 21040229);
        due("how many", x.times(0, FIRST, LAST), 73);
    }

    private static void weeksBeginWithMonday() {
        dates("FREQ=WEEKLY;INTERVAL=2;BYDAY=MO,SU", 20240101, 20240101, 20240107, 20240115, 20240121);
        dates("FREQ=WEEKLY;INTERVAL=2;BYDAY=MO,SU", 20240107, 20240107, 20240115, 20240121, 20240129);
        dates("FREQ=WEEKLY;INTERVAL=2;BYDAY=MO,SU", 20240108, 20240108, 20240114, 20240122, 20240128);
        dates("FREQ=WEEKLY;BYDAY=SU,MO;BYSETPOS=1", 20240101, 20240101, 20240108);
        dates("FREQ=WEEKLY;BYDAY=SU,MO;BYSETPOS=-1", 20240101, 20240107, 20240114);
    }

    private static void firstDateIsMonday() {
        for (int i = 0; i < 7; i++) {
            dates("FREQ=DAILY;BYDAY=" + WEEKDAYS[i], FIRST, FIRST + i, FIRST + i + 7);
        }
        dates("FREQ=DAILY;BYDAY=MO", 21991225, 21991230, 0);
        dates("FREQ=DAILY;BYDAY=TU", 21991225, 21991231, 0);
        dates("FREQ=DAILY;BYDAY=WE", 21991226, 0);
    }

    // Rules and their parts

    private static void oneOrMoreParts() {
        noFault("FREQ=DAILY");
        noFault("FREQ=DAILY;INTERVAL=2");
        noFault("INTERVAL=2;COUNT=3;BYMONTH=1;BYMONTHDAY=1;BYSETPOS=1;BYDAY=MO;FREQ=DAILY");
        fault("", 1, 0);
        fault(";", 1, 0);
        fault(";FREQ=DAILY", 1, 0);
        fault("FREQ=DAILY;", 1, 11);
        fault("FREQ=DAILY;;INTERVAL=2", 1, 11);
        fault("FREQ=DAILY,INTERVAL=2", 1, 10);
        fault("FREQ=DAILY INTERVAL=2", 1, 10);
    }

    private static void namesAreLetters() {
        fault("@REQ=DAILY", 1, 0);
        fault("[REQ=DAILY", 1, 0);
        fault("freq=DAILY", 1, 0);
        fault("1FREQ=DAILY", 1, 0);
        fault("FREQ@=DAILY", 1, 4);
        fault("FREQ[=DAILY", 1, 4);
        fault("FREQf=DAILY", 1, 4);
        fault("FREQA=DAILY", 1, 0);
        fault("FREQZ=DAILY", 1, 0);
        fault("FRE=DAILY", 1, 0);
        fault("F=DAILY", 1, 0);
        fault("FRE", 1, 0);
        fault("A", 1, 0);
        fault("Z", 1, 0);
        fault("ZFREQ=DAILY", 1, 0);
        fault("FREQ=DAILY;BYMONTHDA=1", 1, 11);
        fault("FREQ=DAILY;BYMONTHDAYS=1", 1, 11);
        fault("FREQ=DAILY;BYMONT=1", 1, 11);
        fault("FREQ=DAILY;BYHOUR=1", 1, 11);
    }

    private static void equalsBehindName() {
        for (int i = 0; i < NAMES.length; i++) {
            fault(NAMES[i], 1, NAMES[i].length());
            fault(NAMES[i] + ":" + VALUES[i], 1, NAMES[i].length());
            fault(NAMES[i] + "=", 1, NAMES[i].length() + 1);
            fault(NAMES[i] + "1;FREQ=DAILY", 1, NAMES[i].length());
            fault(NAMES[i] + "-1MO;FREQ=DAILY", 1, NAMES[i].length());
            fault(NAMES[i] + "=;FREQ=DAILY", 1, NAMES[i].length() + 1);
            fault(NAMES[i] + "==" + VALUES[i], 1, NAMES[i].length() + 1);
            fault(NAMES[i] + "= " + VALUES[i], 1, NAMES[i].length() + 1);
            fault(NAMES[i] + "=" + VALUES[i] + "=", 1, NAMES[i].length() + 1 + VALUES[i].length());
            fault(NAMES[i] + "=" + VALUES[i] + " ", 1, NAMES[i].length() + 1 + VALUES[i].length());
        }
    }

    private static void eachNameOnce() {
        for (int i = 0; i < NAMES.length; i++) {
            String once = NAMES[i] + "=" + VALUES[i];
            fault(once + ";" + once, 3, once.length() + 1);
            fault(once + ";" + NAMES[i], 3, once.length() + 1);
            fault(once + ";" + NAMES[i] + "=?", 3, once.length() + 1);
            String between = i == 1 ? ";COUNT=1;" : ";INTERVAL=1;";
            fault(once + between + once, 3, once.length() + between.length());
        }
        fault("BYMONTH=1;BYMONTHDAY=1;BYMONTH=1", 3, 23);
        noFault("FREQ=DAILY;BYMONTH=1;BYMONTHDAY=1;BYDAY=MO");
    }

    private static void frequencies() {
        dates("FREQ=DAILY", 20240131, 20240131, 20240201, 20240202);
        dates("FREQ=WEEKLY", 20240131, 20240131, 20240207, 20240214);
        dates("FREQ=MONTHLY", 20240131, 20240131, 20240331, 20240531);
        dates("FREQ=YEARLY", 20240131, 20240131, 20250131, 20260131);
        fault("FREQ=HOURLY", 1, 5);
        fault("FREQ=D", 1, 5);
        fault("FREQ=DAILYWEEKLY", 1, 5);
        fault("FREQ=YEARL", 1, 5);
        fault("FREQ=YEARLYY", 1, 5);
        fault("FREQ=XYEARLY", 1, 5);
        fault("FREQ=daily", 1, 5);
        fault("FREQ=DAILy", 1, 5);
        fault("FREQ=DAILY,DAILY", 1, 10);
    }

    private static void intervals() {
        fault("FREQ=DAILY;INTERVAL=0", 2, 20);
        dates("FREQ=DAILY;INTERVAL=1", 20240101, 20240101, 20240102, 20240103);
        dates("FREQ=DAILY", 20240101, 20240101, 20240102, 20240103);
        dates("FREQ=DAILY;INTERVAL=2", 20240101, 20240101, 20240103, 20240105);
        dates("FREQ=DAILY;INTERVAL=399", 20240101, 20240101, 20250203);
        dates("FREQ=DAILY;INTERVAL=400", 20240101, 20240101, 20250204);
        fault("FREQ=DAILY;INTERVAL=401", 2, 20);
    }

    private static void counts() {
        fault("FREQ=DAILY;COUNT=0", 2, 17);
        times("FREQ=DAILY;COUNT=1", 20240101, 1);
        times("FREQ=DAILY;COUNT=2", 20240101, 2);
        times("FREQ=DAILY;COUNT=998", 20240101, 998);
        times("FREQ=DAILY;COUNT=999", 20240101, 999);
        fault("FREQ=DAILY;COUNT=1000", 2, 17);
        times("FREQ=DAILY", FIRST, 109573);
        times("FREQ=DAILY;COUNT=999", 21991231, 1);
    }

    private static void untils() {
        for (int date : new int[] {18991231, 22000101, 20230229, 19000229, 21000229, 20240431, 20240001, 20241301,
            20240100, 20240132, 0, 1, 99999999}) {
            fault("FREQ=DAILY;UNTIL=" + date, 2, 17);
        }
        for (int date : new int[] {FIRST, LAST, 20000229, 20240229, 20240430, 20241231}) {
            noFault("FREQ=DAILY;UNTIL=" + date);
        }
        times("FREQ=DAILY;UNTIL=19000101", FIRST, 1);
        times("FREQ=DAILY;UNTIL=21991231", FIRST, 109573);
        times("FREQ=DAILY;UNTIL=21991230", FIRST, 109572);
    }

    private static void months() {
        fault("FREQ=DAILY;BYMONTH=0", 2, 19);
        for (int month = 1; month <= 12; month++) {
            int first = 20240000 + 100 * month + 1;
            dates("FREQ=DAILY;BYMONTH=" + month, 20240101, first, first + 1);
        }
        fault("FREQ=DAILY;BYMONTH=13", 2, 19);
        fault("FREQ=DAILY;BYMONTH=12,13", 2, 22);
        dates("FREQ=YEARLY;BYMONTH=12,1,1", 20240101, 20240101, 20241201, 20250101);
    }

    private static void monthDays() {
        fault("FREQ=MONTHLY;BYMONTHDAY=-32", 2, 24);
        dates("FREQ=MONTHLY;BYMONTHDAY=-31", 20240102, 20240301, 20240501);
        dates("FREQ=MONTHLY;BYMONTHDAY=-1", 20240102, 20240131, 20240229);
        fault("FREQ=MONTHLY;BYMONTHDAY=-0", 2, 24);
        fault("FREQ=MONTHLY;BYMONTHDAY=0", 2, 24);
        fault("FREQ=MONTHLY;BYMONTHDAY=+0", 2, 24);
        dates("FREQ=MONTHLY;BYMONTHDAY=1", 20240102, 20240201, 20240301);
        dates("FREQ=MONTHLY;BYMONTHDAY=31", 20240201, 20240331, 20240531);
        fault("FREQ=MONTHLY;BYMONTHDAY=32", 2, 24);
        fault("FREQ=MONTHLY;BYMONTHDAY=1,-1,0", 2, 29);
    }

    private static void places() {
        String days = "FREQ=YEARLY;BYDAY=" + ALL_WEEKDAYS + ";BYSETPOS=";
        fault(days + "-367", 2, 48);
        dates(days + "-366", 20240101, 20240101, 20280101);
        dates(days + "-365", 20240101, 20240102, 20250101);
        dates(days + "-1", 20240101, 20241231, 20251231);
        fault(days + "0", 2, 48);
        fault(days + "-0", 2, 48);
        fault(days + "+00", 2, 48);
        dates(days + "1", 20240101, 20240101, 20250101);
        dates(days + "365", 20240101, 20241230, 20251231);
        dates(days + "366", 20240101, 20241231, 20281231);
        fault(days + "367", 2, 48);
        fault(days + "366,367", 2, 52);
    }

    private static void weekdayNumbers() {
        fault("FREQ=YEARLY;BYDAY=-54MO", 2, 18);
        dates("FREQ=YEARLY;BYDAY=-53MO", 20240101, 20240101, 20290101);
        dates("FREQ=YEARLY;BYDAY=-1MO", 20240101, 20241230, 20251229);
        fault("FREQ=YEARLY;BYDAY=0MO", 2, 18);
        fault("FREQ=YEARLY;BYDAY=-0MO", 2, 18);
        fault("FREQ=YEARLY;BYDAY=+0MO", 2, 18);
        dates("FREQ=YEARLY;BYDAY=1MO", 20240102, 20250106, 20260105);
        dates("FREQ=YEARLY;BYDAY=53MO", 20240101, 20241230, 20291231);
        fault("FREQ=YEARLY;BYDAY=54MO", 2, 18);
        fault("FREQ=YEARLY;BYDAY=MO,54MO", 2, 21);
    }

    private static void figures() {
        fault("FREQ=DAILY;COUNT=/", 1, 17);
        fault("FREQ=DAILY;COUNT=:", 1, 17);
        fault("FREQ=DAILY;COUNT=1/", 1, 18);
        fault("FREQ=DAILY;COUNT=1:", 1, 18);
        fault("FREQ=DAILY;COUNT=A", 1, 17);
        fault("FREQ=DAILY;COUNT=1A", 1, 18);
        fault("FREQ=DAILY;BYMONTHDAY=+", 1, 23);
        fault("FREQ=DAILY;BYMONTHDAY=-,1", 1, 23);
        fault("FREQ=DAILY;BYMONTH=1;BYSETPOS=+;", 1, 31);
        fault("FREQ=YEARLY;BYDAY=-MO", 1, 19);
        times("FREQ=DAILY;COUNT=01", 20240101, 1);
        times("FREQ=DAILY;COUNT=00999", 20240101, 999);
        times("FREQ=DAILY;COUNT=019", 20240101, 19);
        fault("FREQ=DAILY;COUNT=00", 2, 17);
        fault("FREQ=DAILY;COUNT=01000", 2, 17);
        times("FREQ=DAILY;UNTIL=0019000102", FIRST, 2);
        dates("FREQ=MONTHLY;BYMONTHDAY=-031,+0031", 20240102, 20240131, 20240301);
        dates("FREQ=YEARLY;BYDAY=-0053MO,+01MO", 20240102, 20250106, 20260105);
        times(stretched("FREQ=DAILY;COUNT=", 999, 200), 20240101, 999);
        fault(stretched("FREQ=DAILY;COUNT=", 1000, 200), 2, 17);
    }

    private static void hugeNumbers() {
        String[] huge = {"2147483647", "2147483648", "2147483649", "4294967295", "4294967296", "4294967297",
            "9223372036854775808", "18446744073709551617", "340282366920938463463374607431768211457",
            "100000000", "99999999", "1000000001"};
        for (String number : huge) {
            for (int i = 1; i < NAMES.length; i++) {
                String begin = NAMES[i] + "=";
                fault(begin + number + ";FREQ=YEARLY", 2, begin.length());
                fault(begin + number + "MO;FREQ=YEARLY", 2, begin.length());
                if (i == 5 || i == 6 || i == 7) {
                    fault(begin + "-" + number + ";FREQ=YEARLY", 2, begin.length());
                }
            }
        }
        fault("UNTIL=4315207397;FREQ=DAILY", 2, 6);
        fault("UNTIL=120240101;FREQ=DAILY", 2, 6);
    }

    private static void signs() {
        for (String sign : new String[] {"+", "-"}) {
            for (int i = 1; i < 5; i++) {
                fault(NAMES[i] + "=" + sign + VALUES[i] + ";FREQ=DAILY", 1, NAMES[i].length() + 1);
            }
            fault("BYMONTH=1," + sign + "2;FREQ=DAILY", 1, 10);
            fault("FREQ=" + sign + "DAILY", 1, 5);
            noFault("BYMONTHDAY=" + sign + "1;FREQ=DAILY");
            noFault("BYMONTHDAY=1," + sign + "1;FREQ=DAILY");
            noFault("BYMONTHDAY=1;BYSETPOS=" + sign + "1;FREQ=DAILY");
            noFault("BYDAY=MO," + sign + "1MO;FREQ=MONTHLY");
            fault("BYMONTHDAY=" + sign + "+1;FREQ=DAILY", 1, 12);
            fault("BYMONTHDAY=" + sign + "-1;FREQ=DAILY", 1, 12);
            fault("BYDAY=" + sign + "-1MO;FREQ=DAILY", 1, 7);
            fault("BYMONTHDAY=1" + sign + ";FREQ=DAILY", 1, 12);
        }
        dates("FREQ=MONTHLY;BYMONTHDAY=+2", 20240101, 20240102, 20240202);
        dates("FREQ=MONTHLY;BYMONTHDAY=-2", 20240101, 20240130, 20240228);
        dates("FREQ=MONTHLY;BYDAY=MO;BYSETPOS=+2", 20240101, 20240108, 20240212);
        dates("FREQ=MONTHLY;BYDAY=MO;BYSETPOS=-2", 20240101, 20240122, 20240219);
        dates("FREQ=MONTHLY;BYDAY=+2MO", 20240101, 20240108, 20240212);
        dates("FREQ=MONTHLY;BYDAY=-2MO", 20240101, 20240122, 20240219);
    }

    private static void lists() {
        for (int i = 1; i < 4; i++) {
            String one = NAMES[i] + "=" + VALUES[i];
            fault(one + "," + VALUES[i] + ";FREQ=DAILY", 1, one.length());
        }
        for (int i = 4; i < 8; i++) {
            String one = NAMES[i] + "=" + VALUES[i];
            int begin = NAMES[i].length() + 1;
            String rest = ";FREQ=DAILY" + (i == 6 ? ";BYMONTH=1" : "");
            noFault(one + rest);
            noFault(one + "," + VALUES[i] + rest);
            noFault(one + "," + VALUES[i] + "," + VALUES[i] + rest);
            fault(one + ",", 1, one.length() + 1);
            fault(one + "," + rest, 1, one.length() + 1);
            fault(one + ",," + VALUES[i] + rest, 1, one.length() + 1);
            fault(NAMES[i] + "=," + VALUES[i] + rest, 1, begin);
            fault(one + " ," + VALUES[i] + rest, 1, one.length());
        }
        StringBuilder longest = new StringBuilder("FREQ=YEARLY;BYMONTH=12");
        while (longest.length() < 200) {
            longest.append(",1");
        }
        dates(longest.toString(), 20240131, 20240131, 20241231, 20250131);
        times("FREQ=MONTHLY;BYMONTHDAY=1,1,-31;UNTIL=20241231", 20240101, 12);
        times("FREQ=MONTHLY;BYDAY=MO;BYSETPOS=1,1,1;COUNT=2", 20240101, 2);
    }

    // Faults

    private static void bytesOutOfPlace() {
        for (int i = 0; i < 256; i++) {
            char c = (char) i;
            boolean isFigure = c >= '0' && c <= '9';
            boolean isLetter = c >= 'A' && c <= 'Z';
            fault("FREQ=DAILY" + c, 1, c == ';' ? 11 : isLetter ? 5 : 10);
            fault("COUNT=" + c + ";FREQ=DAILY", isFigure ? c == '0' ? 2 : 0 : 1, isFigure && c != '0' ? NONE : 6);
            fault("FREQ" + c, 1, c == '=' ? 5 : isLetter ? 0 : 4);
            if (!isLetter) {
                fault(c + "FREQ=DAILY", 1, 0);
                fault("FREQ=DAILY;BYDAY=M" + c, 1, 18);
            }
            if (c != ',' && c != ';') {
                fault("FREQ=DAILY;BYDAY=MO" + c, 1, 19);
                fault("FREQ=DAILY;BYDAY=MO" + c + ",TU", 1, 19);
            }
        }
    }

    private static void faultAtTextsEnd() {
        fault("", 1, 0);
        fault("FREQ", 1, 4);
        fault("FREQ=", 1, 5);
        fault("FREQ=DAILY;", 1, 11);
        fault("FREQ=DAILY;BYMONTHDAY=+", 1, 23);
        fault("FREQ=DAILY;BYDAY=1", 1, 18);
        fault("FREQ=DAILY;BYDAY=M", 1, 18);
        fault("FREQ=DAILY;BYDAY=MO,", 1, 20);
        StringBuilder full = new StringBuilder("FREQ=DAILY;BYMONTH=1");
        while (full.length() < 198) {
            full.append(",1");
        }
        fault(full + ",1", 0, NONE);
        fault(full + "1,", 1, 200);
        fault(full + "1;", 1, 200);
        for (String end : new String[] {"BYDAY", "BYDAY=", "BYDAY=M", "BYDAY=1", "BYDAY=-", "BYDAY=-1S", "BYDAY=MO,",
            "BYMONTHDAY=-", "BYMONTHDAY=1,", "COUNT", "COUNT=", "COUNT=1;", "BYMONTHDAY=1;BYSETPOS=+"}) {
            fault(stretched("FREQ=MONTHLY;INTERVAL=", 1, 199 - end.length()) + ";" + end, 1, 200);
        }
        fault(stretched("INTERVAL=", 1, 195) + ";FREQ", 1, 200);
        fault(stretched("INTERVAL=", 1, 194) + ";FREQ=", 1, 200);
        fault(stretched("INTERVAL=", 1, 193) + ";FREQ=D", 1, 199);
        fault(stretched("INTERVAL=", 1, 198) + ";F", 1, 199);
    }

    private static void wordsThatAreNone() {
        fault("INTERVAL=2;FREQS=DAILY", 1, 11);
        fault("INTERVAL=2;FREQ=DAIL", 1, 16);
        fault("FREQ=DAILY;BYDAY=MM", 1, 17);
        fault("FREQ=DAILY;BYDAY=OM", 1, 17);
        fault("FREQ=DAILY;BYDAY=UW", 1, 17);
        fault("FREQ=DAILY;BYDAY=MO,TX", 1, 20);
        fault("FREQ=MONTHLY;BYDAY=1MU", 1, 20);
        fault("FREQ=MONTHLY;BYDAY=-12MU", 1, 22);
        fault("FREQ=MONTHLY;BYDAY=1mo", 1, 20);
        for (int i = 0; i < NAMES.length; i++) {
            for (String word : spoiled(NAMES[i])) {
                fault("COUNT=1;" + word + "=" + VALUES[i], 1, 8);
                fault(word + "=" + VALUES[i] + ";FREQ=DAILY", 1, 0);
            }
        }
        for (String frequency : new String[] {"DAILY", "WEEKLY", "MONTHLY", "YEARLY"}) {
            noFault("FREQ=" + frequency);
            for (String word : spoiled(frequency)) {
                fault("FREQ=" + word, 1, 5);
            }
        }
        for (char a = 'A'; a <= 'Z'; a++) {
            for (char b = 'A'; b <= 'Z'; b++) {
                String pair = "" + a + b;
                boolean is = Arrays.asList(WEEKDAYS).contains(pair);
                fault("FREQ=DAILY;BYDAY=" + pair, is ? 0 : 1, is ? NONE : 17);
            }
        }
    }

    /** The words with one letter changed, one left out, or one more. */
    private static List<String> spoiled(String word) {
        List<String> all = new ArrayList<>();
        for (int i = 0; i < word.length(); i++) {
            all.add(word.substring(0, i) + (word.charAt(i) == 'Z' ? 'A' : 'Z') + word.substring(i + 1));
            all.add(word.substring(0, i) + (char) (word.charAt(i) - 1) + word.substring(i + 1));
            all.add(word.substring(0, i) + 'E' + word.substring(i));
            all.add(word.substring(0, i) + word.substring(i + 1));
        }
        all.add(word + "S");
        all.removeIf(other -> other.equals(word) || !other.matches("[A-Z]+"));
        return all;
    }

    private static void nameBeforeEquals() {
        fault("FREQS", 1, 0);
        fault("FREQS?", 1, 0);
        fault("FREQ?", 1, 4);
        fault("FREQ=DAILY;FREQ?", 3, 11);
    }

    private static void lettersOfFrequencyAndWeekday() {
        fault("FREQ=DAILYMO", 1, 5);
        fault("FREQ=DAILYMO;", 1, 5);
        fault("FREQ=DAILY;BYDAY=MOTU", 1, 19);
        fault("FREQ=DAILY;BYDAY=MONDAY", 1, 19);
        fault("FREQ=DAILY;BYDAY=MXNDAY", 1, 17);
        fault("FREQ=DAILY;BYDAY=MO,TUE", 1, 22);
    }

    private static void placeOfNumber() {
        fault("FREQ=DAILY;COUNT=1000", 2, 17);
        fault("FREQ=DAILY;COUNT=0001000", 2, 17);
        fault("FREQ=DAILY;BYMONTHDAY=+32", 2, 22);
        fault("FREQ=DAILY;BYMONTHDAY=-32", 2, 22);
        fault("FREQ=DAILY;BYMONTHDAY=1,2,-32", 2, 26);
        fault("FREQ=YEARLY;BYDAY=TU,-54MO", 2, 21);
    }

    private static void firstFaultCounts() {
        fault("FREQ=DAILY;COUNT=1000;COUNT=1;X", 2, 17);
        fault("FREQ=DAILY;COUNT=1000X", 2, 17);
        fault("FREQ=DAILY;FREQ=X;COUNT=0", 3, 11);
        fault("FREQ=X;COUNT=0;FREQ=DAILY", 1, 5);
        fault("FREQ=YEARLY;BYDAY=54XX", 2, 18);
        fault("FREQ=YEARLY;BYDAY=XX,54MO", 1, 18);
        fault("COUNT=1;UNTIL=20240101;INTERVAL=0", 2, 32);
        fault("COUNT=1;UNTIL=20240101;COUNT=1", 3, 23);
        fault("COUNT=1;UNTIL=20240101;", 1, 23);
        fault("BYSETPOS=1;X=1", 1, 11);
        fault("FREQ=WEEKLY;BYMONTHDAY=1;BYDAY=1MO;BYDAY", 3, 35);
    }

    private static void noFrequency() {
        fault("COUNT=1", 4, 7);
        fault("BYDAY=MO", 4, 8);
        fault("BYDAY=1MO;BYMONTHDAY=1;BYSETPOS=1;UNTIL=20240101;COUNT=1", 4, 56);
        fault(stretched("COUNT=", 1, 200), 4, 200);
        noFault("COUNT=1;FREQ=DAILY");
    }

    private static void countAndUntil() {
        fault("FREQ=DAILY;COUNT=1;UNTIL=20240101", 4, 33);
        fault("UNTIL=20240101;FREQ=DAILY;COUNT=1", 4, 33);
        noFault("FREQ=DAILY;COUNT=1");
        noFault("FREQ=DAILY;UNTIL=20240101");
    }

    private static void monthDayAndWeekly() {
        fault("FREQ=WEEKLY;BYMONTHDAY=1", 4, 24);
        fault("BYMONTHDAY=1;FREQ=WEEKLY", 4, 24);
        fault("FREQ=WEEKLY;BYMONTHDAY=-1;BYDAY=MO", 4, 34);
        noFault("FREQ=DAILY;BYMONTHDAY=1");
        noFault("FREQ=MONTHLY;BYMONTHDAY=1");
        noFault("FREQ=YEARLY;BYMONTHDAY=1");
        noFault("FREQ=WEEKLY;BYMONTH=1");
    }

    private static void numberedWeekdays() {
        fault("FREQ=DAILY;BYDAY=1MO", 4, 20);
        fault("FREQ=WEEKLY;BYDAY=1MO", 4, 21);
        fault("BYDAY=-1SU;FREQ=WEEKLY", 4, 22);
        fault("FREQ=DAILY;BYDAY=MO,TU,1WE", 4, 26);
        fault("FREQ=DAILY;BYDAY=1MO,TU;BYMONTH=1", 4, 33);
        fault("FREQ=MONTHLY;BYDAY=1MO;BYMONTHDAY=1", 4, 35);
        fault("FREQ=YEARLY;BYMONTHDAY=1;BYDAY=TU,-1MO", 4, 38);
        noFault("FREQ=DAILY;BYDAY=MO");
        noFault("FREQ=WEEKLY;BYDAY=MO");
        noFault("FREQ=DAILY;BYDAY=MO;BYMONTHDAY=1");
        noFault("FREQ=MONTHLY;BYDAY=MO;BYMONTHDAY=1");
        noFault("FREQ=YEARLY;BYDAY=MO;BYMONTHDAY=1");
        noFault("FREQ=MONTHLY;BYDAY=1MO");
        noFault("FREQ=YEARLY;BYDAY=1MO");
        noFault("FREQ=YEARLY;BYDAY=1MO;BYMONTH=1");
    }

    private static void placesOfNothing() {
        fault("FREQ=DAILY;BYSETPOS=1", 4, 21);
        fault("FREQ=WEEKLY;BYSETPOS=1", 4, 22);
        fault("FREQ=MONTHLY;BYSETPOS=1", 4, 23);
        fault("BYSETPOS=1;FREQ=YEARLY", 4, 22);
        fault("FREQ=DAILY;BYSETPOS=1;INTERVAL=2;COUNT=3", 4, 40);
        noFault("FREQ=DAILY;BYSETPOS=1;BYMONTH=1");
        noFault("FREQ=DAILY;BYSETPOS=1;BYMONTHDAY=1");
        noFault("FREQ=DAILY;BYSETPOS=1;BYDAY=MO");
    }

    // Periods and days that suit

    private static void periodsThatCount() {
        dates("FREQ=DAILY;INTERVAL=2", 20231231, 20231231, 20240102, 20240104);
        dates("FREQ=WEEKLY;INTERVAL=2;BYDAY=MO", 20231231, 20240108, 20240122);
        dates("FREQ=WEEKLY;INTERVAL=2;BYDAY=SU", 20231225, 20231231, 20240114);
        dates("FREQ=MONTHLY;INTERVAL=2;BYMONTHDAY=1", 20231231, 20240201, 20240401);
        dates("FREQ=MONTHLY;INTERVAL=12;BYMONTHDAY=-1", 20231201, 20231231, 20241231);
        dates("FREQ=YEARLY;INTERVAL=2;BYMONTH=1;BYMONTHDAY=1", 20231231, 20250101, 20270101);
        dates("FREQ=YEARLY;INTERVAL=299", FIRST, FIRST, 21990101, 0);
        dates("FREQ=YEARLY;INTERVAL=300", FIRST, FIRST, 0);
        dates("FREQ=YEARLY;INTERVAL=400", 19000228, 19000228, 0);
        dates("FREQ=MONTHLY;INTERVAL=400", FIRST, FIRST, 19330501, 19660901, 20000101, 20330501, 20660901,
                21000101, 21330501, 21660901, 0);
        dates("FREQ=WEEKLY;INTERVAL=400", 21900101, 21900101, 21970901, 0);
        dates("FREQ=DAILY;INTERVAL=400", 21981125, 21981125, 21991230, 0);
        dates("FREQ=DAILY;INTERVAL=400", 21981126, 21981126, 21991231, 0);
        dates("FREQ=DAILY;INTERVAL=400", 21981127, 21981127, 0);
    }

    private static void monthSuits() {
        dates("FREQ=DAILY;BYMONTH=2", 20240228, 20240228, 20240229, 20250201);
        dates("FREQ=WEEKLY;BYMONTH=2", 20240222, 20240222, 20240229, 20250206);
        dates("FREQ=MONTHLY;BYMONTH=2", 20240229, 20240229, 20280229);
        dates("FREQ=YEARLY;BYMONTH=2,4", 20240330, 20240430, 20250430);
        dates("FREQ=YEARLY;BYMONTH=2", 20240330, 0);
        dates("FREQ=YEARLY", 20240330, 20240330, 20250330);
        dates("FREQ=YEARLY;BYMONTHDAY=30", 20240330, 20240330, 20240430, 20240530);
        dates("FREQ=YEARLY;BYDAY=MO", 20240330, 20240401, 20240408);
        dates("FREQ=MONTHLY", 20240330, 20240330, 20240430);
    }

    private static void monthDaySuits() {
        dates("FREQ=MONTHLY;BYMONTHDAY=29,30,31", 20230128, 20230129, 20230130, 20230131, 20230329);
        dates("FREQ=MONTHLY;BYMONTHDAY=29", 20240201, 20240229, 20240329);
        dates("FREQ=MONTHLY;BYMONTHDAY=-28", 20230101, 20230104, 20230201, 20230304, 20230403);
        dates("FREQ=MONTHLY;BYMONTHDAY=-29", 20230101, 20230103, 20230303, 20230402);
        dates("FREQ=MONTHLY;BYMONTHDAY=-29", 20240201, 20240201, 20240303);
        dates("FREQ=MONTHLY;BYMONTHDAY=-30", 20240201, 20240302, 20240401, 20240502);
        dates("FREQ=MONTHLY;BYMONTHDAY=-31", 20240201, 20240301, 20240501);
        dates("FREQ=MONTHLY;BYMONTHDAY=-1,-2", 20000201, 20000228, 20000229, 20000330);
        dates("FREQ=MONTHLY;BYMONTHDAY=-1,-2", 21000201, 21000227, 21000228, 21000330);
        dates("FREQ=DAILY;BYMONTHDAY=-1", 20240101, 20240131, 20240229);
        dates("FREQ=YEARLY;BYMONTHDAY=-31;BYMONTH=4", FIRST, 0);
        dates("FREQ=YEARLY;BYMONTHDAY=30;BYMONTH=2", FIRST, 0);
        dates("FREQ=MONTHLY", 20231031, 20231031, 20231231, 20240131, 20240331);
        dates("FREQ=YEARLY", 20960229, 20960229, 21040229);
        dates("FREQ=YEARLY;BYMONTH=1,2,3", 20240130, 20240130, 20240330, 20250130);
        dates("FREQ=MONTHLY;BYDAY=WE", 20240131, 20240131, 20240207);
        dates("FREQ=YEARLY;BYDAY=WE", 20240131, 20240131, 20240207);
    }

    private static void weekdaySuits() {
        dates("FREQ=DAILY;BYDAY=SU,MO", 20240106, 20240107, 20240108, 20240114);
        dates("FREQ=WEEKLY", 20240106, 20240106, 20240113);
        dates("FREQ=WEEKLY;BYDAY=MO", 20240106, 20240108, 20240115);
        dates("FREQ=WEEKLY;BYMONTH=3", 20240106, 20240302, 20240309);
        dates("FREQ=MONTHLY;BYDAY=1FR,-1FR", 20240301, 20240301, 20240329, 20240405, 20240426);
        dates("FREQ=MONTHLY;BYDAY=5FR", 20240201, 20240329, 20240531);
        dates("FREQ=MONTHLY;BYDAY=-5TH", 20240201, 20240201, 20240502);
        dates("FREQ=MONTHLY;BYDAY=4SU,-4SU", 20230201, 20230205, 20230226, 20230305, 20230326);
        dates("FREQ=MONTHLY;BYDAY=6MO,-6MO,53MO,-53MO", FIRST, 0);
        dates("FREQ=MONTHLY;BYDAY=1MO;BYMONTH=12", 20240101, 20241202, 20251201);
        dates("FREQ=YEARLY;BYDAY=1MO;BYMONTH=12", 20240101, 20241202, 20251201);
        dates("FREQ=YEARLY;BYDAY=-1MO;BYMONTH=2,3", 20240101, 20240226, 20240325, 20250224);
        dates("FREQ=YEARLY;BYDAY=6MO;BYMONTH=2", FIRST, 0);
        dates("FREQ=YEARLY;BYDAY=6MO", 20240101, 20240205, 20250210);
        dates("FREQ=YEARLY;BYDAY=52SU,-52SU", 20230101, 20230108, 20231224, 20240107, 20241229);
        dates("FREQ=YEARLY;BYDAY=53SU", 20230101, 20231231, 20281231);
        dates("FREQ=YEARLY;BYDAY=-53SU", 20230101, 20230101, 20280102);
        dates("FREQ=YEARLY;BYDAY=MO,53MO,1MO;COUNT=2", 20241223, 20241223, 20241230, 0);
        dates("FREQ=YEARLY;BYDAY=1TU,WE;COUNT=3", 20240101, 20240102, 20240103, 20240110, 0);
    }

    private static void placesInPeriods() {
        dates("FREQ=MONTHLY;BYDAY=MO,TU,WE,TH,FR;BYSETPOS=1,-1", 20240115, 20240131, 20240201, 20240229);
        dates("FREQ=MONTHLY;BYMONTHDAY=10,20,30;BYSETPOS=2", 20240115, 20240120, 20240220);
        dates("FREQ=MONTHLY;BYMONTHDAY=10,20,30;BYSETPOS=3", 20240115, 20240130, 20240330);
        dates("FREQ=MONTHLY;BYMONTHDAY=10,20,30;BYSETPOS=-3", 20240201, 20240310, 20240410);
        dates("FREQ=MONTHLY;BYMONTHDAY=10,20,30;BYSETPOS=4,-4,366,-366", FIRST, 0);
        dates("FREQ=MONTHLY;BYMONTHDAY=10,20;BYSETPOS=1,-2", 20240101, 20240110, 20240210);
        dates("FREQ=MONTHLY;BYMONTHDAY=1,20;BYSETPOS=2;UNTIL=20240119", 20240101, 0);
        dates("FREQ=MONTHLY;BYMONTHDAY=1,20;BYSETPOS=-1;UNTIL=20240119", 20240101, 0);
        dates("FREQ=MONTHLY;BYMONTHDAY=1,20;BYSETPOS=1;COUNT=2", 20240102, 20240201, 20240301, 0);
        dates("FREQ=DAILY;BYMONTH=1;BYSETPOS=1", 20240131, 20240131, 20250101);
        dates("FREQ=DAILY;BYMONTH=1;BYSETPOS=-1", 20240131, 20240131, 20250101);
        dates("FREQ=DAILY;BYMONTH=1;BYSETPOS=2,-2", 20240131, 0);
        dates("FREQ=WEEKLY;BYDAY=" + ALL_WEEKDAYS + ";BYSETPOS=7,-7", 20240102, 20240107, 20240108, 20240114);
        dates("FREQ=WEEKLY;BYDAY=" + ALL_WEEKDAYS + ";BYSETPOS=8,-8", 20240102, 0);
        dates("FREQ=WEEKLY;INTERVAL=2;BYDAY=MO,WE;BYSETPOS=1", 20240103, 20240115, 20240129);
        dates("FREQ=WEEKLY;BYDAY=MO,SU;BYSETPOS=2;BYMONTH=12", 20241201, 20241208, 20241215);
        dates("FREQ=WEEKLY;BYDAY=MO,SU;BYSETPOS=1;BYMONTH=12", 20241201, 20241201, 20241202, 20241209);
        dates("FREQ=WEEKLY;BYDAY=MO,SU;BYSETPOS=1;BYMONTH=1", 20240101, 20240101, 20240108, 20240115);
        dates("FREQ=WEEKLY;BYDAY=MO,SU;BYSETPOS=1;BYMONTH=1", 20250101, 20250105, 20250106);
        dates("FREQ=YEARLY;BYMONTH=1,12;BYSETPOS=2", 20240115, 20241215, 20251215);
        dates("FREQ=YEARLY;BYDAY=MO;BYSETPOS=53,-53", 20240101, 20240101, 20241230, 20290101, 20291231);
        dates("FREQ=WEEKLY;BYDAY=MO,TU;BYSETPOS=2", 21991225, 21991231, 0);
        dates("FREQ=WEEKLY;BYDAY=MO,TU;BYSETPOS=1", FIRST, FIRST, 19000108);
    }

    private static void notBeforeTheStart() {
        dates("FREQ=MONTHLY;BYMONTHDAY=14", 20240115, 20240214);
        dates("FREQ=MONTHLY;BYMONTHDAY=15", 20240115, 20240115);
        dates("FREQ=YEARLY;BYMONTH=1", 20240115, 20240115, 20250115);
        dates("FREQ=WEEKLY;BYDAY=MO,SU", 20240102, 20240107);
        dates("FREQ=YEARLY;BYMONTH=12;BYMONTHDAY=31", 21991231, LAST, 0);
        dates("FREQ=YEARLY;BYMONTH=12;BYMONTHDAY=30", 21991231, 0);
        dates("FREQ=DAILY;BYMONTH=1", 21991231, 0);
        dates("FREQ=DAILY", LAST, LAST, 0);
        dates("FREQ=DAILY;INTERVAL=400", FIRST, FIRST, 19010205);
    }

    private static void notBehindUntil() {
        dates("FREQ=DAILY;UNTIL=20240102", 20240101, 20240101, 20240102, 0);
        dates("FREQ=DAILY;UNTIL=20240101", 20240101, 20240101, 0);
        dates("FREQ=DAILY;UNTIL=20231231", 20240101, 0);
        dates("FREQ=DAILY;UNTIL=19000101", LAST, 0);
        dates("FREQ=DAILY;UNTIL=19000101", FIRST, FIRST, 0);
        dates("FREQ=WEEKLY;UNTIL=20240114", 20240101, 20240101, 20240108, 0);
        dates("FREQ=WEEKLY;UNTIL=20240115", 20240101, 20240101, 20240108, 20240115, 0);
        dates("FREQ=MONTHLY;UNTIL=20240229", 20240131, 20240131, 0);
        dates("FREQ=MONTHLY;BYMONTHDAY=-1;UNTIL=20240229", 20240131, 20240131, 20240229, 0);
        dates("FREQ=YEARLY;UNTIL=20250102", 20240102, 20240102, 20250102, 0);
        dates("FREQ=YEARLY;UNTIL=20250101", 20240102, 20240102, 0);
        dates("FREQ=YEARLY;UNTIL=21991231", 21981231, 21981231, LAST, 0);
    }

    private static void firstCountOfThem() {
        dates("FREQ=DAILY;COUNT=1", 20240101, 20240101, 0);
        dates("FREQ=DAILY;COUNT=2", 20240131, 20240131, 20240201, 0);
        dates("FREQ=MONTHLY;BYMONTHDAY=1,15;COUNT=2", 20240102, 20240115, 20240201, 0);
        dates("FREQ=MONTHLY;COUNT=2", 20240131, 20240131, 20240331, 0);
        dates("FREQ=YEARLY;BYMONTH=2;BYMONTHDAY=30;COUNT=2", FIRST, 0);
        dates("FREQ=DAILY;COUNT=2", LAST, LAST, 0);
        dates("FREQ=YEARLY;COUNT=999", FIRST, FIRST, 19010101);
        times("FREQ=YEARLY;COUNT=999", FIRST, 300);
        times("FREQ=MONTHLY;COUNT=999", FIRST, 999);
    }

    private static void exceptionsAndDaysBesides() {
        RuledCalendar x = with("FREQ=DAILY;COUNT=3", 20240110);
        x.except(0, 20240111, true);
        due("an exception is counted all the same", x.next(0, 20240110), 20240112);
        due("none comes for it", x.next(0, 20240112), NONE);
        x.besides(0, 20240109, true);
        x.besides(0, 20240113, true);
        x.besides(0, FIRST, true);
        x.besides(0, LAST, true);
        due("days besides are not counted", x.times(0, FIRST, LAST), 6);
        x.except(0, 20240113, true);
        x.besides(0, 20240111, true);
        due("at no exception", x.times(0, FIRST, LAST), 5);
        due("before the start", x.date(0, 0), FIRST);
        due("behind the last", x.date(0, 4), LAST);
        due("there are no more", x.date(0, 5), NONE);
    }

    private static void dateTerms() {
        sentence("dates: days from 19000101 to 21991231", TermsEdgesTest::firstAndLastDate);
        sentence("dates: each month's days", TermsEdgesTest::datesOfAllMonths);
        sentence("dates: leap days", TermsEdgesTest::leapDays);
        sentence("weeks begin with Monday", TermsEdgesTest::weeksBeginWithMonday);
        sentence("19000101 is a Monday", TermsEdgesTest::firstDateIsMonday);
    }

    private static void ruleTerms() {
        sentence("one or more parts with ; between", TermsEdgesTest::oneOrMoreParts);
        sentence("a name: letters A .. Z, as many as stand together", TermsEdgesTest::namesAreLetters);
        sentence("a part: a name, =, and what belongs to it", TermsEdgesTest::equalsBehindName);
        sentence("each name comes once at most", TermsEdgesTest::eachNameOnce);
        sentence("FREQ: DAILY, WEEKLY, MONTHLY or YEARLY", TermsEdgesTest::frequencies);
        sentence("INTERVAL: 1 .. 400 (1 without it)", TermsEdgesTest::intervals);
        sentence("COUNT: 1 .. 999", TermsEdgesTest::counts);
        sentence("UNTIL: a date", TermsEdgesTest::untils);
        sentence("BYMONTH of 1 .. 12", TermsEdgesTest::months);
        sentence("BYMONTHDAY of -31 .. 31 without 0", TermsEdgesTest::monthDays);
        sentence("BYSETPOS of -366 .. 366 without 0", TermsEdgesTest::places);
        sentence("BYDAY: a number before, -53 .. 53, not 0", TermsEdgesTest::weekdayNumbers);
        sentence("numbers have one or more figures (0 may stand in front)", TermsEdgesTest::figures);
        sentence("numbers far out of range", TermsEdgesTest::hugeNumbers);
        sentence("those that can be below 0 may have + or -", TermsEdgesTest::signs);
        sentence("lists, with commas between", TermsEdgesTest::lists);
    }

    private static void faultTerms() {
        sentence("fault 1: a byte that can't come there, at it", TermsEdgesTest::bytesOutOfPlace);
        sentence("fault 1: or the text's end", TermsEdgesTest::faultAtTextsEnd);
        sentence("fault 1: words that are none, at the first letter", TermsEdgesTest::wordsThatAreNone);
        sentence("a name is tested before its =", TermsEdgesTest::nameBeforeEquals);
        sentence("letters of FREQ as many as stand together, of a weekday two",
                TermsEdgesTest::lettersOfFrequencyAndWeekday);
        sentence("fault 2: at the number's first byte", TermsEdgesTest::placeOfNumber);
        sentence("the first one from the beginning on", TermsEdgesTest::firstFaultCounts);
        sentence("fault 4: no FREQ", TermsEdgesTest::noFrequency);
        sentence("fault 4: COUNT and UNTIL", TermsEdgesTest::countAndUntil);
        sentence("fault 4: BYMONTHDAY and WEEKLY", TermsEdgesTest::monthDayAndWeekly);
        sentence("fault 4: a weekday with a number", TermsEdgesTest::numberedWeekdays);
        sentence("fault 4: BYSETPOS without another list", TermsEdgesTest::placesOfNothing);
    }

    private static void thingTerms() {
        sentence("periods that count", TermsEdgesTest::periodsThatCount);
        sentence("its month suits", TermsEdgesTest::monthSuits);
        sentence("its day of the month suits", TermsEdgesTest::monthDaySuits);
        sentence("its weekday suits", TermsEdgesTest::weekdaySuits);
        sentence("with BYSETPOS those only whose place is in it", TermsEdgesTest::placesInPeriods);
        sentence("not before the start", TermsEdgesTest::notBeforeTheStart);
        sentence("nor behind UNTIL", TermsEdgesTest::notBehindUntil);
        sentence("the first COUNT of them", TermsEdgesTest::firstCountOfThem);
        sentence("exceptions and days besides", TermsEdgesTest::exceptionsAndDaysBesides);
    }

    public static void main(String[] args) {
        dateTerms();
        ruleTerms();
        faultTerms();
        thingTerms();
        end();
    }
}
