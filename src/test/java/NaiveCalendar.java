import java.time.DayOfWeek;
import java.time.LocalDate;
import java.time.temporal.ChronoUnit;
import java.util.ArrayList;
import java.util.Arrays;
import java.util.HashMap;
import java.util.HashSet;
import java.util.List;
import java.util.Map;
import java.util.Set;
import java.util.TreeMap;
import java.util.TreeSet;
import java.util.regex.Matcher;
import java.util.regex.Pattern;

/** The document's words taken literally, day by day and with java.time: what other tests compare with. */
final class NaiveCalendar {
    private static final LocalDate FIRST = LocalDate.of(1900, 1, 1);
    private static final LocalDate LAST = LocalDate.of(2199, 12, 31);
    private static final List<String> NAMES = List.of(
            "FREQ", "INTERVAL", "COUNT", "UNTIL", "BYMONTH", "BYMONTHDAY", "BYSETPOS", "BYDAY");
    private static final List<String> FREQUENCIES = List.of("DAILY", "WEEKLY", "MONTHLY", "YEARLY");
    private static final List<String> WEEKDAYS = List.of("MO", "TU", "WE", "TH", "FR", "SA", "SU");
    private static final Map<String, int[]> RANGES = Map.of(
            "INTERVAL", new int[] {1, 400}, "COUNT", new int[] {1, 999},
            "UNTIL", new int[] {19000101, 21991231}, "BYMONTH", new int[] {1, 12},
            "BYMONTHDAY", new int[] {-31, 31}, "BYSETPOS", new int[] {-366, 366},
            "BYDAY", new int[] {-53, 53});

    private static final class Thing {
        TreeSet<LocalDate> ruled = new TreeSet<>();
        TreeSet<LocalDate> besides = new TreeSet<>();
        Set<LocalDate> exceptions = new HashSet<>();

        TreeSet<LocalDate> days() {
            TreeSet<LocalDate> all = new TreeSet<>(ruled);
            all.addAll(besides);
            all.removeAll(exceptions);
            return all;
        }
    }

    private static final class Fault extends Exception {
        private static final long serialVersionUID = 1L;
        final int kind;
        final int place;

        Fault(int kind, int place) {
            this.kind = kind;
            this.place = place;
        }
    }

    private String text = "";
    private final Thing[] things = new Thing[12];
    private final List<Long> listed = new ArrayList<>();
    private int fault = 0;
    private int place = -1;

    static LocalDate day(int date) {
        if (date < 0) {
            throw new IllegalArgumentException();
        }
        LocalDate day;
        try {
            day = LocalDate.of(date / 10000, date / 100 % 100, date % 100);
        } catch (java.time.DateTimeException e) {
            throw new IllegalArgumentException(e);
        }
        if (day.isBefore(FIRST) || day.isAfter(LAST)) {
            throw new IllegalArgumentException();
        }
        return day;
    }

    static int number(LocalDate day) {
        return day.getYear() * 10000 + day.getMonthValue() * 100 + day.getDayOfMonth();
    }

    int feed(int n, long bytes) {
        if (n < 1 || n > 8) {
            throw new IllegalArgumentException();
        }
        if (text.length() + n > 200) {
            return -1;
        }
        for (int i = 0; i < n; i++) {
            text += (char) (bytes >> 8 * i & 255);
        }
        return text.length();
    }

    int wipe() {
        int had = text.length();
        text = "";
        return had;
    }

    int thing(int start) {
        LocalDate begin = day(start);
        int free = Arrays.asList(things).indexOf(null);
        if (free < 0) {
            return -1;
        }
        fault = 0;
        place = -1;
        try {
            Thing made = new Thing();
            made.ruled = ruledDays(parts(text), begin);
            things[free] = made;
            return free;
        } catch (Fault f) {
            fault = f.kind;
            place = f.place;
            return -1;
        }
    }

    int fault() {
        return fault;
    }

    int place() {
        return place;
    }

    private Thing known(int thing) {
        if (thing < 0 || thing > 11 || things[thing] == null) {
            throw new IndexOutOfBoundsException();
        }
        return things[thing];
    }

    void drop(int thing) {
        known(thing);
        things[thing] = null;
    }

    boolean except(int thing, int date, boolean is) {
        Set<LocalDate> set = known(thing).exceptions;
        LocalDate day = day(date);
        return is ? !set.add(day) : set.remove(day);
    }

    boolean besides(int thing, int date, boolean is) {
        Set<LocalDate> set = known(thing).besides;
        LocalDate day = day(date);
        return is ? !set.add(day) : set.remove(day);
    }

    boolean comes(int thing, int date) {
        return known(thing).days().contains(day(date));
    }

    int next(int thing, int date) {
        LocalDate found = known(thing).days().higher(day(date));
        return found == null ? -1 : number(found);
    }

    int date(int thing, int k) {
        Thing known = known(thing);
        if (k < 0) {
            throw new IllegalArgumentException();
        }
        return known.days().stream().skip(k).findFirst().map(NaiveCalendar::number).orElse(-1);
    }

    int times(int thing, int from, int to) {
        Thing known = known(thing);
        LocalDate first = day(from);
        LocalDate last = day(to);
        return (int) known.days().stream().filter(d -> !d.isBefore(first) && !d.isAfter(last)).count();
    }

    private TreeMap<LocalDate, List<Integer>> all() {
        TreeMap<LocalDate, List<Integer>> all = new TreeMap<>();
        for (int i = 0; i < 12; i++) {
            if (things[i] != null) {
                for (LocalDate day : things[i].days()) {
                    all.computeIfAbsent(day, d -> new ArrayList<>()).add(i);
                }
            }
        }
        return all;
    }

    int list(int from, int to) {
        LocalDate first = day(from);
        LocalDate last = day(to);
        listed.clear();
        all().forEach((day, numbers) -> {
            for (int i : numbers) {
                if (!day.isBefore(first) && !day.isAfter(last) && listed.size() < 300) {
                    listed.add(16L * number(day) + i);
                }
            }
        });
        return listed.size();
    }

    long item(int i) {
        return listed.get(i);
    }

    int busiest(int from, int to) {
        LocalDate first = day(from);
        LocalDate last = day(to);
        int most = 0;
        int best = -1;
        for (Map.Entry<LocalDate, List<Integer>> e : all().entrySet()) {
            boolean inside = !e.getKey().isBefore(first) && !e.getKey().isAfter(last);
            if (inside && e.getValue().size() > most) {
                most = e.getValue().size();
                best = number(e.getKey());
            }
        }
        return best;
    }

    int quiet(int from, int n) {
        LocalDate first = day(from);
        if (n < 1 || n > 1000) {
            throw new IllegalArgumentException();
        }
        Set<LocalDate> busy = all().keySet();
        int run = 0;
        for (LocalDate day = first; !day.isAfter(LAST); day = day.plusDays(1)) {
            run = busy.contains(day) ? 0 : run + 1;
            if (run == n) {
                return number(day.minusDays(n - 1));
            }
        }
        return -1;
    }

    int shifted(int date, int days) {
        LocalDate day = day(date).plusDays(days);
        return day.isBefore(FIRST) || day.isAfter(LAST) ? -1 : number(day);
    }

    private static String run(String text, int at, String pattern) {
        Matcher matcher = Pattern.compile(pattern).matcher(text).region(at, text.length());
        return matcher.lookingAt() ? matcher.group() : "";
    }

    private static Map<String, List<String>> parts(String text) throws Fault {
        Map<String, List<String>> parts = new HashMap<>();
        int at = 0;
        while (true) {
            String name = run(text, at, "[A-Z]+");
            if (!NAMES.contains(name)) {
                throw new Fault(1, at);
            }
            if (parts.containsKey(name)) {
                throw new Fault(3, at);
            }
            at += name.length();
            List<String> values = new ArrayList<>();
            parts.put(name, values);
            String sign = "=";
            do {
                if (!text.startsWith(sign, at)) {
                    throw new Fault(1, at);
                }
                String value = value(name, text, at + 1);
                values.add(value);
                at += 1 + value.length();
                sign = ",";
            } while (name.startsWith("BY") && text.startsWith(",", at));
            if (at == text.length()) {
                break;
            }
            if (text.charAt(at) != ';') {
                throw new Fault(1, at);
            }
            at++;
        }
        if (!fits(parts)) {
            throw new Fault(4, text.length());
        }
        return parts;
    }

    private static String value(String name, String text, int at) throws Fault {
        if (name.equals("FREQ")) {
            String letters = run(text, at, "[A-Z]+");
            if (!FREQUENCIES.contains(letters)) {
                throw new Fault(1, at);
            }
            return letters;
        }
        String number = run(text, at, RANGES.get(name)[0] < 0 ? "[+-]?[0-9]*" : "[0-9]*");
        if (!name.equals("BYDAY") || !number.isEmpty()) {
            checkNumber(name, number, at);
        }
        if (!name.equals("BYDAY")) {
            return number;
        }
        String letters = run(text, at + number.length(), "[A-Z]{1,2}");
        if (letters.length() < 2) {
            throw new Fault(1, at + number.length() + letters.length());
        }
        if (!WEEKDAYS.contains(letters)) {
            throw new Fault(1, at + number.length());
        }
        return number + letters;
    }

    private static void checkNumber(String name, String number, int at) throws Fault {
        if (!number.matches(".*[0-9]")) {
            throw new Fault(1, at + number.length());
        }
        java.math.BigInteger value = new java.math.BigInteger(number.replace("+", ""));
        int[] range = RANGES.get(name);
        boolean tooLow = value.compareTo(java.math.BigInteger.valueOf(range[0])) < 0;
        boolean tooHigh = value.compareTo(java.math.BigInteger.valueOf(range[1])) > 0;
        if (tooLow || tooHigh || value.signum() == 0) {
            throw new Fault(2, at);
        }
        if (name.equals("UNTIL")) {
            try {
                day(value.intValue());
            } catch (IllegalArgumentException e) {
                throw new Fault(2, at);
            }
        }
    }

    private static boolean fits(Map<String, List<String>> parts) {
        if (!parts.containsKey("FREQ")) {
            return false;
        }
        String freq = parts.get("FREQ").get(0);
        boolean numbered = parts.getOrDefault("BYDAY", List.of()).stream().anyMatch(w -> w.length() > 2);
        boolean monthDays = parts.containsKey("BYMONTHDAY");
        return !(parts.containsKey("COUNT") && parts.containsKey("UNTIL"))
                && !(monthDays && freq.equals("WEEKLY"))
                && !(numbered && (freq.equals("DAILY") || freq.equals("WEEKLY") || monthDays))
                && !(parts.containsKey("BYSETPOS") && !parts.containsKey("BYMONTH")
                        && !monthDays && !parts.containsKey("BYDAY"));
    }

    private static long period(String freq, LocalDate day) {
        switch (freq) {
            case "DAILY":
                return ChronoUnit.DAYS.between(FIRST, day);
            case "WEEKLY":
                return ChronoUnit.WEEKS.between(FIRST, day.with(DayOfWeek.MONDAY));
            case "MONTHLY":
                return day.getYear() * 12L + day.getMonthValue();
            default:
                return day.getYear();
        }
    }

    private static TreeSet<LocalDate> ruledDays(Map<String, List<String>> parts, LocalDate start) {
        String freq = parts.get("FREQ").get(0);
        int interval = parts.containsKey("INTERVAL") ? Integer.parseInt(parts.get("INTERVAL").get(0)) : 1;
        TreeMap<Long, List<LocalDate>> periods = new TreeMap<>();
        for (LocalDate day = FIRST; !day.isAfter(LAST); day = day.plusDays(1)) {
            long behind = period(freq, day) - period(freq, start);
            if (behind >= 0 && behind % interval == 0 && suits(parts, freq, start, day)) {
                periods.computeIfAbsent(behind, p -> new ArrayList<>()).add(day);
            }
        }
        int count = parts.containsKey("COUNT") ? Integer.parseInt(parts.get("COUNT").get(0)) : 1000000;
        LocalDate until = parts.containsKey("UNTIL") ? day(Integer.parseInt(parts.get("UNTIL").get(0))) : LAST;
        TreeSet<LocalDate> ruled = new TreeSet<>();
        for (List<LocalDate> days : periods.values()) {
            for (int i = 0; i < days.size(); i++) {
                LocalDate day = days.get(i);
                boolean chosen = !parts.containsKey("BYSETPOS")
                        || has(parts, "BYSETPOS", i + 1) || has(parts, "BYSETPOS", i - days.size());
                if (chosen && !day.isBefore(start) && !day.isAfter(until) && ruled.size() < count) {
                    ruled.add(day);
                }
            }
        }
        return ruled;
    }

    private static boolean has(Map<String, List<String>> parts, String name, int value) {
        for (String s : parts.get(name)) {
            if (Integer.parseInt(s) == value) {
                return true;
            }
        }
        return false;
    }

    private static boolean suits(Map<String, List<String>> parts, String freq, LocalDate start, LocalDate day) {
        boolean byMonth = parts.containsKey("BYMONTH");
        boolean byMonthDay = parts.containsKey("BYMONTHDAY");
        boolean byDay = parts.containsKey("BYDAY");
        if (byMonth) {
            if (!has(parts, "BYMONTH", day.getMonthValue())) {
                return false;
            }
        } else if (freq.equals("YEARLY") && !byMonthDay && !byDay && day.getMonth() != start.getMonth()) {
            return false;
        }
        if (byMonthDay) {
            if (!has(parts, "BYMONTHDAY", day.getDayOfMonth())
                    && !has(parts, "BYMONTHDAY", day.getDayOfMonth() - day.lengthOfMonth() - 1)) {
                return false;
            }
        } else if ((freq.equals("MONTHLY") || freq.equals("YEARLY")) && !byDay
                && day.getDayOfMonth() != start.getDayOfMonth()) {
            return false;
        }
        if (byDay) {
            return weekdaySuits(parts.get("BYDAY"), freq.equals("MONTHLY") || byMonth, day);
        }
        return !freq.equals("WEEKLY") || day.getDayOfWeek() == start.getDayOfWeek();
    }

    private static boolean weekdaySuits(List<String> list, boolean inMonth, LocalDate day) {
        for (String s : list) {
            String number = s.substring(0, s.length() - 2);
            int weekday = WEEKDAYS.indexOf(s.substring(s.length() - 2)) + 1;
            if (day.getDayOfWeek().getValue() != weekday) {
                continue;
            }
            if (number.isEmpty() || Integer.parseInt(number) == countedPlace(day, inMonth, Integer.parseInt(number))) {
                return true;
            }
        }
        return false;
    }

    /** Which one of its weekdays a day is, counted on the side that the sign of a number tells. */
    private static int countedPlace(LocalDate day, boolean inMonth, int sign) {
        int step = sign > 0 ? -7 : 7;
        int place = 0;
        LocalDate other = day;
        while (other.getYear() == day.getYear() && (!inMonth || other.getMonth() == day.getMonth())) {
            place++;
            other = other.plusDays(step);
        }
        return sign > 0 ? place : -place;
    }
}
