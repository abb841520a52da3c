import java.util.Arrays;

/** Things that come again and again by rules; ../shared/DOC.md says what each method promises. */
public final class RuledCalendar {
    public static final int NONE = -1;

    private static final int TEXT_LIMIT = 200;
    private static final int THING_LIMIT = 12;
    private static final int LIST_LIMIT = 300;
    private static final int QUIET_LIMIT = 1000;
    /** So many binary digits hold a count of all things. */
    private static final int COUNT_DIGITS = 4;

    private static final int FIRST_YEAR = 1900;
    private static final int FIRST_DATE = 19000101;
    private static final int LAST_DATE = 21991231;
    private static final int MONTHS = 3600;
    private static final int WEEK = 7;
    private static final int LONGEST_MONTH = 31;
    private static final int LONGEST_YEAR = 366;
    /** The days of a month are bits of an int, the first one the lowest. */
    private static final int ALL_DAYS = 0x7fffffff;
    private static final int[] MONTH_LENGTHS = {31, 28, 31, 30, 31, 30, 31, 31, 30, 31, 30, 31};
    private static final String WEEKDAYS = "MOTUWETHFRSASU";

    private static final int NO_FAULT = 0;
    private static final int WRONG_BYTE = 1;
    private static final int OUT_OF_RANGE = 2;
    private static final int NAME_AGAIN = 3;
    private static final int NOT_TOGETHER = 4;

    private static final Part[] PARTS = Part.values();
    private static final Frequency[] FREQUENCIES = Frequency.values();

    private final char[] text;
    private int textLength;
    private final Days dayTable;
    private final Rule rule;
    private final Reader reader;
    private final Filler filler;
    private final Thing[] things;
    private final long[] listed;
    private int listedCount;
    private final int[] counts;

    public RuledCalendar() {
        text = new char[TEXT_LIMIT];
        textLength = 0;
        dayTable = new Days();
        rule = new Rule();
        reader = new Reader(rule);
        filler = new Filler(dayTable, rule);
        things = new Thing[THING_LIMIT];
        listed = new long[LIST_LIMIT];
        listedCount = 0;
        counts = new int[COUNT_DIGITS];
    }

    public int feed(int n, long bytes) throws IllegalArgumentException {
        if (n < 1 || n > 8) {
            throw new IllegalArgumentException();
        }
        if (textLength + n > TEXT_LIMIT) {
            return NONE;
        }
        for (int i = 0; i < n; i++) {
            text[textLength + i] = (char) (bytes >>> (8 * i) & 255L);
        }
        textLength += n;
        return textLength;
    }

    public int wipe() {
        int had = textLength;
        textLength = 0;
        return had;
    }

    public int thing(int start) throws IllegalArgumentException {
        requireDate(start);
        int number = freeNumber();
        if (number == NONE) {
            return NONE;
        }
        reader.readRule(text, textLength);
        if (reader.faultKind != NO_FAULT) {
            return NONE;
        }
        // A thing's rows are made when its number is first used, and serve every later one.
        Thing made = things[number];
        if (made == null) {
            made = new Thing();
            things[number] = made;
        }
        made.begin();
        filler.fillRow(made.ruled, start);
        return number;
    }

    public int fault() {
        return reader.faultKind;
    }

    public int place() {
        return reader.faultPlace;
    }

    public void drop(int thing) throws IndexOutOfBoundsException {
        knownThing(thing).live = false;
    }

    public boolean except(int thing, int date, boolean is)
            throws IndexOutOfBoundsException, IllegalArgumentException {
        Thing known = knownThing(thing);
        requireDate(date);
        return Thing.mark(known.exceptions, date, is);
    }

    public boolean besides(int thing, int date, boolean is)
            throws IndexOutOfBoundsException, IllegalArgumentException {
        Thing known = knownThing(thing);
        requireDate(date);
        return Thing.mark(known.extras, date, is);
    }

    public boolean comes(int thing, int date)
            throws IndexOutOfBoundsException, IllegalArgumentException {
        Thing known = knownThing(thing);
        requireDate(date);
        return (known.daysIn(Days.monthOf(date)) & 1 << Days.dayOf(date)) != 0;
    }

    public int next(int thing, int date)
            throws IndexOutOfBoundsException, IllegalArgumentException {
        Thing known = knownThing(thing);
        requireDate(date);
        int first = Days.monthOf(date);
        int behind = -2 << Days.dayOf(date);
        for (int month = first; month < MONTHS; month++) {
            int found = known.daysIn(month) & (month == first ? behind : ALL_DAYS);
            if (found != 0) {
                return Days.dateAt(month, Integer.numberOfTrailingZeros(found));
            }
        }
        return NONE;
    }

    public int date(int thing, int k) throws IndexOutOfBoundsException, IllegalArgumentException {
        Thing known = knownThing(thing);
        if (k < 0) {
            throw new IllegalArgumentException();
        }
        int left = k;
        for (int month = 0; month < MONTHS; month++) {
            int found = known.daysIn(month);
            int many = Integer.bitCount(found);
            if (left < many) {
                int rest = found & ~Days.lowest(found, left);
                return Days.dateAt(month, Integer.numberOfTrailingZeros(rest));
            }
            left -= many;
        }
        return NONE;
    }

    public int times(int thing, int from, int to)
            throws IndexOutOfBoundsException, IllegalArgumentException {
        Thing known = knownThing(thing);
        requireDate(from);
        requireDate(to);
        int last = Days.monthOf(to);
        int sum = 0;
        for (int month = Days.monthOf(from); month <= last; month++) {
            sum += Integer.bitCount(known.daysIn(month) & Days.between(month, from, to));
        }
        return sum;
    }

    public int list(int from, int to) throws IllegalArgumentException {
        requireDate(from);
        requireDate(to);
        listedCount = 0;
        int last = Days.monthOf(to);
        for (int month = Days.monthOf(from); month <= last && listedCount < LIST_LIMIT; month++) {
            listMonth(month, busyDays(month) & Days.between(month, from, to));
        }
        return listedCount;
    }

    public long item(int i) throws IndexOutOfBoundsException {
        if (i < 0 || i >= listedCount) {
            throw new IndexOutOfBoundsException();
        }
        return listed[i];
    }

    public int busiest(int from, int to) throws IllegalArgumentException {
        requireDate(from);
        requireDate(to);
        int last = Days.monthOf(to);
        int best = NONE;
        int most = 0;
        for (int month = Days.monthOf(from); month <= last; month++) {
            countThings(month, Days.between(month, from, to));
            int highest = 0;
            int found = ALL_DAYS;
            for (int digit = COUNT_DIGITS - 1; digit >= 0; digit--) {
                if ((found & counts[digit]) != 0) {
                    found &= counts[digit];
                    highest |= 1 << digit;
                }
            }
            if (highest > most) {
                most = highest;
                best = Days.dateAt(month, Integer.numberOfTrailingZeros(found));
            }
        }
        return best;
    }

    public int quiet(int from, int n) throws IllegalArgumentException {
        requireDate(from);
        if (n < 1 || n > QUIET_LIMIT) {
            throw new IllegalArgumentException();
        }
        int first = Days.monthOf(from);
        int begin = dayTable.numberOf(from);
        for (int month = first; month < MONTHS; month++) {
            int busy = busyDays(month) & (month == first ? -1 << Days.dayOf(from) : ALL_DAYS);
            for (int left = Integer.bitCount(busy); left > 0; left--) {
                int day = dayTable.first[month] + Integer.numberOfTrailingZeros(busy);
                if (day - begin >= n) {
                    return dayTable.dateOf(begin);
                }
                begin = day + 1;
                busy &= busy - 1;
            }
        }
        return dayTable.first[MONTHS] - begin >= n ? dayTable.dateOf(begin) : NONE;
    }

    public int shifted(int date, int days) throws IllegalArgumentException {
        requireDate(date);
        long target = (long) dayTable.numberOf(date) + days;
        if (target < 0 || target >= dayTable.first[MONTHS]) {
            return NONE;
        }
        return dayTable.dateOf((int) target);
    }

    private static void requireDate(int date) {
        if (!Days.isDate(date)) {
            throw new IllegalArgumentException();
        }
    }

    private Thing knownThing(int number) {
        if (number < 0 || number >= THING_LIMIT) {
            throw new IndexOutOfBoundsException();
        }
        Thing known = things[number];
        if (known == null || !known.live) {
            throw new IndexOutOfBoundsException();
        }
        return known;
    }

    private int freeNumber() {
        for (int number = 0; number < THING_LIMIT; number++) {
            Thing there = things[number];
            if (there == null || !there.live) {
                return number;
            }
        }
        return NONE;
    }

    private int daysOfThing(int number, int month) {
        Thing there = things[number];
        return there == null || !there.live ? 0 : there.daysIn(month);
    }

    private int busyDays(int month) {
        int busy = 0;
        for (int number = 0; number < THING_LIMIT; number++) {
            busy |= daysOfThing(number, month);
        }
        return busy;
    }

    private void listMonth(int month, int busy) {
        int rest = busy;
        for (int left = Integer.bitCount(busy); left > 0; left--) {
            listDay(month, Integer.numberOfTrailingZeros(rest));
            rest &= rest - 1;
        }
    }

    private void listDay(int month, int day) {
        long date = Days.dateAt(month, day);
        for (int number = 0; number < THING_LIMIT && listedCount < LIST_LIMIT; number++) {
            if ((daysOfThing(number, month) & 1 << day) != 0) {
                listed[listedCount] = 16L * date + number;
                listedCount++;
            }
        }
    }

    /**
     * Counts for all days of a month at once, to spare a loop over days: counts[0] has each day's
     * lowest binary digit of how many things come at it, counts[1] the next one, and so on.
     */
    private void countThings(int month, int inside) {
        Arrays.fill(counts, 0);
        for (int number = 0; number < THING_LIMIT; number++) {
            int carry = daysOfThing(number, month) & inside;
            for (int digit = 0; digit < COUNT_DIGITS; digit++) {
                int both = counts[digit] & carry;
                counts[digit] ^= carry;
                carry = both;
            }
        }
    }

    /** Dates as months from 0 (January 1900) and days of them from 0, and as days from 0. */
    private static final class Days {
        /** The number of each month's first day; behind the last month, how many days there are. */
        final int[] first;

        Days() {
            first = new int[MONTHS + 1];
            for (int month = 0; month < MONTHS; month++) {
                first[month + 1] = first[month] + lengthOf(month);
            }
        }

        static boolean isDate(int date) {
            if (date < FIRST_DATE || date > LAST_DATE) {
                return false;
            }
            int month = date / 100 % 100;
            int day = date % 100;
            return month >= 1 && month <= 12 && day >= 1 && day <= lengthOf(monthOf(date));
        }

        static int monthOf(int date) {
            return (date / 10000 - FIRST_YEAR) * 12 + date / 100 % 100 - 1;
        }

        static int dayOf(int date) {
            return date % 100 - 1;
        }

        static int dateAt(int month, int day) {
            return (FIRST_YEAR + month / 12) * 10000 + (month % 12 + 1) * 100 + day + 1;
        }

        static int lengthOf(int month) {
            int ofYear = month % 12;
            return ofYear == 1 && isLeap(FIRST_YEAR + month / 12) ? 29 : MONTH_LENGTHS[ofYear];
        }

        static boolean isLeap(int year) {
            return year % 4 == 0 && year % 100 != 0 || year % 400 == 0;
        }

        static int januaryOf(int month) {
            return month - month % 12;
        }

        /** The days of a month from one date up to another one; the month is one of theirs or between. */
        static int between(int month, int from, int to) {
            int inside = ALL_DAYS;
            if (month == monthOf(from)) {
                inside &= -1 << dayOf(from);
            }
            if (month == monthOf(to)) {
                inside &= (2 << dayOf(to)) - 1;
            }
            return inside;
        }

        static int lowest(int bits, int many) {
            int rest = bits;
            for (int i = 0; i < many && rest != 0; i++) {
                rest &= rest - 1;
            }
            return bits & ~rest;
        }

        int numberOf(int date) {
            return first[monthOf(date)] + dayOf(date);
        }

        int dateOf(int number) {
            int month = 0;
            for (int step = 2048; step > 0; step /= 2) {
                if (month + step < MONTHS && first[month + step] <= number) {
                    month += step;
                }
            }
            return dateAt(month, number - first[month]);
        }
    }

    /** A thing's days, a bit each, in rows of months. */
    private static final class Thing {
        final int[] ruled;
        final int[] extras;
        final int[] exceptions;
        boolean live;

        Thing() {
            ruled = new int[MONTHS];
            extras = new int[MONTHS];
            exceptions = new int[MONTHS];
            live = false;
        }

        void begin() {
            Arrays.fill(ruled, 0);
            Arrays.fill(extras, 0);
            Arrays.fill(exceptions, 0);
            live = true;
        }

        int daysIn(int month) {
            return (ruled[month] | extras[month]) & ~exceptions[month];
        }

        static boolean mark(int[] row, int date, boolean is) {
            int month = Days.monthOf(date);
            int bit = 1 << Days.dayOf(date);
            boolean was = (row[month] & bit) != 0;
            row[month] = is ? row[month] | bit : row[month] & ~bit;
            return was;
        }
    }

    private enum Frequency {
        DAILY("DAILY", false),
        WEEKLY("WEEKLY", false),
        MONTHLY("MONTHLY", true),
        YEARLY("YEARLY", true);

        final String word;
        final boolean wholeMonths;

        Frequency(String word, boolean wholeMonths) {
            this.word = word;
            this.wholeMonths = wholeMonths;
        }

        /** The first day of all is a Monday, so that weeks are sevens of days. */
        int periodOf(int month, int day) {
            if (this == DAILY) {
                return day;
            }
            if (this == WEEKLY) {
                return day / WEEK;
            }
            return this == MONTHLY ? month : month / 12;
        }
    }

    /** The parts of a rule; low and high bound their numbers. */
    private enum Part {
        FREQ("FREQ", 1, false, 0, 0),
        INTERVAL("INTERVAL", 2, false, 1, 400),
        COUNT("COUNT", 4, false, 1, 999),
        UNTIL("UNTIL", 8, false, FIRST_DATE, LAST_DATE),
        BYMONTH("BYMONTH", 16, true, 1, 12),
        BYMONTHDAY("BYMONTHDAY", 32, true, -LONGEST_MONTH, LONGEST_MONTH),
        BYSETPOS("BYSETPOS", 64, true, -LONGEST_YEAR, LONGEST_YEAR),
        BYDAY("BYDAY", 128, true, -53, 53);

        final String word;
        final int bit;
        final boolean isList;
        final int low;
        final int high;

        Part(String word, int bit, boolean isList, int low, int high) {
            this.word = word;
            this.bit = bit;
            this.isList = isList;
            this.low = low;
            this.high = high;
        }

        boolean allows(int value) {
            return value >= low && value <= high && value != 0;
        }
    }

    /** What the parts of the rule that was read last say. */
    private static final class Rule {
        /** More than there are days. */
        private static final int NO_COUNT = 1000000;

        int present;
        Frequency frequency;
        int interval;
        int count;
        int until;
        int months;
        int monthDays;
        /** As for a month of 31 days; a shorter one's are so many places lower. */
        int monthDaysFromEnd;
        int weekdays;
        int numberedWeekdays;
        /** For each weekday, a bit for each number. */
        final long[] numbers;
        final long[] numbersFromEnd;
        /** 1 where a place is in BYSETPOS; 0 stands in the middle. */
        final byte[] places;

        Rule() {
            numbers = new long[WEEK];
            numbersFromEnd = new long[WEEK];
            places = new byte[2 * LONGEST_YEAR + 1];
            forget();
        }

        private void forget() {
            present = 0;
            frequency = Frequency.DAILY;
            interval = 1;
            count = NO_COUNT;
            until = LAST_DATE;
            months = 0;
            monthDays = 0;
            monthDaysFromEnd = 0;
            weekdays = 0;
            numberedWeekdays = 0;
            Arrays.fill(numbers, 0L);
            Arrays.fill(numbersFromEnd, 0L);
            Arrays.fill(places, (byte) 0);
        }

        boolean has(Part part) {
            return (present & part.bit) != 0;
        }

        void addNumber(Part part, int value) {
            if (part == Part.INTERVAL) {
                interval = value;
            } else if (part == Part.COUNT) {
                count = value;
            } else if (part == Part.UNTIL) {
                until = value;
            } else if (part == Part.BYMONTH) {
                months |= 1 << value;
            } else if (part == Part.BYSETPOS) {
                places[LONGEST_YEAR + value] = 1;
            } else if (value > 0) {
                monthDays |= 1 << value - 1;
            } else {
                monthDaysFromEnd |= 1 << LONGEST_MONTH + value;
            }
        }

        /** A number 0 stands for none. */
        void addWeekday(int weekday, int number) {
            if (number == 0) {
                weekdays |= 1 << weekday;
                return;
            }
            numberedWeekdays |= 1 << weekday;
            if (number > 0) {
                numbers[weekday] |= 1L << number;
            } else {
                numbersFromEnd[weekday] |= 1L << -number;
            }
        }

        boolean isChosen(int place, int many) {
            return places[LONGEST_YEAR + place + 1] != 0 || places[LONGEST_YEAR + place - many] != 0;
        }

        boolean goesTogether() {
            if (!has(Part.FREQ) || has(Part.COUNT) && has(Part.UNTIL)) {
                return false;
            }
            if (has(Part.BYMONTHDAY) && frequency == Frequency.WEEKLY) {
                return false;
            }
            if (numberedWeekdays != 0 && (!frequency.wholeMonths || has(Part.BYMONTHDAY))) {
                return false;
            }
            return !has(Part.BYSETPOS)
                    || has(Part.BYMONTH) || has(Part.BYMONTHDAY) || has(Part.BYDAY);
        }
    }

    /** Reads a text into a rule, up to its first fault. */
    private static final class Reader {
        /** Above every number that is in a range, and far enough below the greatest int. */
        private static final int TOO_GREAT = 100000000;

        private final Rule rule;
        private char[] text;
        private int length;
        private int at;
        int faultKind;
        int faultPlace;

        Reader(Rule rule) {
            this.rule = rule;
            text = new char[0];
            faultKind = NO_FAULT;
            faultPlace = NONE;
        }

        void readRule(char[] text, int length) {
            this.text = text;
            this.length = Math.min(length, text.length);
            at = 0;
            faultKind = NO_FAULT;
            faultPlace = NONE;
            rule.forget();
            readPart();
            for (int i = 0; i < TEXT_LIMIT && faultKind == NO_FAULT && at < this.length; i++) {
                take(';');
                readPart();
            }
            if (!rule.goesTogether()) {
                fail(NOT_TOGETHER, this.length);
            }
        }

        /** Only the first fault counts: what is read behind it is idle. */
        private void fail(int kind, int where) {
            if (faultKind == NO_FAULT) {
                faultKind = kind;
                faultPlace = where;
            }
        }

        private boolean sees(char sign) {
            return at < length && text[at] == sign;
        }

        private boolean seesLetter() {
            return at < length && text[at] >= 'A' && text[at] <= 'Z';
        }

        private boolean seesFigure() {
            return at < length && text[at] >= '0' && text[at] <= '9';
        }

        private void take(char sign) {
            if (sees(sign)) {
                at++;
            } else {
                fail(WRONG_BYTE, at);
            }
        }

        /** Passes over letters, of which there must be one; answers where they begin. */
        private int takeLetters(int most) {
            int begin = at;
            for (int i = 0; i < most && seesLetter(); i++) {
                at++;
            }
            if (at == begin) {
                fail(WRONG_BYTE, at);
            }
            return begin;
        }

        private boolean isWord(String word, int begin) {
            if (word.length() != at - begin) {
                return false;
            }
            for (int i = 0; i < word.length(); i++) {
                if (word.charAt(i) != text[begin + i]) {
                    return false;
                }
            }
            return true;
        }

        private void readPart() {
            int begin = takeLetters(TEXT_LIMIT);
            Part part = partNamed(begin);
            if (part == null) {
                fail(WRONG_BYTE, begin);
                return;
            }
            if (rule.has(part)) {
                fail(NAME_AGAIN, begin);
            }
            rule.present |= part.bit;
            take('=');
            readValue(part);
            for (int i = 0; i < TEXT_LIMIT && part.isList && sees(','); i++) {
                at++;
                readValue(part);
            }
            if (at < length && !sees(';')) {
                fail(WRONG_BYTE, at);
            }
        }

        private Part partNamed(int begin) {
            for (int i = 0; i < PARTS.length; i++) {
                if (isWord(PARTS[i].word, begin)) {
                    return PARTS[i];
                }
            }
            return null;
        }

        private void readValue(Part part) {
            if (faultKind != NO_FAULT) {
                return;
            }
            if (part == Part.FREQ) {
                readFrequency();
            } else if (part == Part.BYDAY) {
                readWeekday();
            } else {
                int begin = at;
                int value = readNumber(part);
                if (part == Part.UNTIL && !Days.isDate(value)) {
                    fail(OUT_OF_RANGE, begin);
                }
                if (faultKind == NO_FAULT) {
                    rule.addNumber(part, value);
                }
            }
        }

        private void readFrequency() {
            int begin = takeLetters(TEXT_LIMIT);
            for (int i = 0; i < FREQUENCIES.length; i++) {
                if (isWord(FREQUENCIES[i].word, begin)) {
                    rule.frequency = FREQUENCIES[i];
                    return;
                }
            }
            fail(WRONG_BYTE, begin);
        }

        private int readNumber(Part part) {
            int begin = at;
            boolean isMinus = part.low < 0 && sees('-');
            if (isMinus || part.low < 0 && sees('+')) {
                at++;
            }
            int figures = at;
            int value = 0;
            for (int i = 0; i < TEXT_LIMIT && seesFigure(); i++) {
                value = Math.min(TOO_GREAT, value * 10 + text[at] - '0');
                at++;
            }
            if (at == figures) {
                fail(WRONG_BYTE, at);
            }
            int signed = isMinus ? -value : value;
            if (!part.allows(signed)) {
                fail(OUT_OF_RANGE, begin);
            }
            return signed;
        }

        private void readWeekday() {
            int number = 0;
            if (sees('+') || sees('-') || seesFigure()) {
                number = readNumber(Part.BYDAY);
            }
            int begin = takeLetters(2);
            if (at != begin + 2) {
                fail(WRONG_BYTE, at);
            }
            if (faultKind != NO_FAULT) {
                return;
            }
            int weekday = weekdayAt(begin);
            if (weekday == NONE) {
                fail(WRONG_BYTE, begin);
            } else {
                rule.addWeekday(weekday, number);
            }
        }

        private int weekdayAt(int begin) {
            for (int i = 0; i < WEEK; i++) {
                if (WEEKDAYS.charAt(2 * i) == text[begin]
                        && WEEKDAYS.charAt(2 * i + 1) == text[begin + 1]) {
                    return i;
                }
            }
            return NONE;
        }
    }

    /** Finds the days at which a thing comes by a rule. */
    private static final class Filler {
        private final Days days;
        private final Rule rule;
        private int[] row;
        private int start;
        private int interval;
        private int startPeriod;
        /** The days of one period that suit, 32 times the month and the day. */
        private final int[] gathered;
        private int gatheredCount;

        Filler(Days days, Rule rule) {
            this.days = days;
            this.rule = rule;
            row = new int[0];
            gathered = new int[LONGEST_YEAR];
        }

        void fillRow(int[] row, int start) {
            this.row = row;
            this.start = start;
            interval = Math.max(1, rule.interval);
            startPeriod = rule.frequency.periodOf(Days.monthOf(start), days.numberOf(start));
            // BYSETPOS asks for whole periods: years, and weeks that reach over their ends.
            int from = Math.max(0, Days.januaryOf(Days.monthOf(start)) - 1);
            int to = Math.min(row.length - 1, Days.januaryOf(Days.monthOf(rule.until)) + 12);
            for (int month = from; month <= to; month++) {
                row[month] = countedDays(month);
            }
            if (rule.has(Part.BYSETPOS)) {
                choosePlaces(from, to);
            }
            cutEnds(from, to);
        }

        private boolean counts(int month, int day) {
            return (rule.frequency.periodOf(month, day) - startPeriod) % interval == 0;
        }

        /** The days of a month that suit, in periods that count. */
        private int countedDays(int month) {
            int first = days.first[month];
            if (rule.frequency.wholeMonths) {
                return counts(month, first) ? suitingDays(month) : 0;
            }
            int suiting = suitingDays(month);
            if (interval == 1) {
                return suiting;
            }
            int counted = 0;
            for (int day = 0; day < LONGEST_MONTH; day++) {
                if ((suiting & 1 << day) != 0 && counts(month, first + day)) {
                    counted |= 1 << day;
                }
            }
            return counted;
        }

        private int suitingDays(int month) {
            if (!monthSuits(month)) {
                return 0;
            }
            int all = ALL_DAYS >>> LONGEST_MONTH - Days.lengthOf(month);
            return all & byMonthDay(month) & byWeekday(month);
        }

        private boolean monthSuits(int month) {
            if (rule.has(Part.BYMONTH)) {
                return (rule.months & 1 << month % 12 + 1) != 0;
            }
            boolean isStartsMonth = rule.frequency == Frequency.YEARLY
                    && !rule.has(Part.BYMONTHDAY) && !rule.has(Part.BYDAY);
            return !isStartsMonth || month % 12 == Days.monthOf(start) % 12;
        }

        private int byMonthDay(int month) {
            if (rule.has(Part.BYMONTHDAY)) {
                int missing = LONGEST_MONTH - Days.lengthOf(month);
                return rule.monthDays | rule.monthDaysFromEnd >>> missing;
            }
            boolean isStartsDay = rule.frequency.wholeMonths && !rule.has(Part.BYDAY);
            return isStartsDay ? 1 << Days.dayOf(start) : ALL_DAYS;
        }

        private int byWeekday(int month) {
            if (rule.has(Part.BYDAY)) {
                int numbered = rule.numberedWeekdays == 0 ? 0 : numberedWeekdays(month);
                return numbered | plainWeekdays(month, rule.weekdays);
            }
            if (rule.frequency == Frequency.WEEKLY) {
                return plainWeekdays(month, 1 << days.numberOf(start) % WEEK);
            }
            return ALL_DAYS;
        }

        private int plainWeekdays(int month, int weekdays) {
            int firstWeekday = days.first[month] % WEEK;
            int week = (weekdays >>> firstWeekday | weekdays << WEEK - firstWeekday) & 127;
            int fourWeeks = week | week << 7 | week << 14 | week << 21;
            return fourWeeks | week << 28;
        }

        private int numberedWeekdays(int month) {
            boolean inMonth = rule.frequency == Frequency.MONTHLY || rule.has(Part.BYMONTH);
            int begin = inMonth ? month : Days.januaryOf(month);
            int end = inMonth ? month + 1 : begin + 12;
            int found = 0;
            for (int day = days.first[month]; day < days.first[month + 1]; day++) {
                int number = (day - days.first[begin]) / WEEK + 1;
                int fromEnd = (days.first[end] - 1 - day) / WEEK + 1;
                int weekday = day % WEEK;
                if ((rule.numbers[weekday] >>> number & 1L) != 0
                        || (rule.numbersFromEnd[weekday] >>> fromEnd & 1L) != 0) {
                    found |= 1 << day - days.first[month];
                }
            }
            return found;
        }

        /** Keeps of each period's days those only whose places are in BYSETPOS. */
        private void choosePlaces(int from, int to) {
            gatheredCount = 0;
            int period = NONE;
            for (int month = from; month <= to; month++) {
                int suiting = row[month];
                row[month] = 0;
                for (int left = Integer.bitCount(suiting); left > 0; left--) {
                    int day = Integer.numberOfTrailingZeros(suiting);
                    int here = rule.frequency.periodOf(month, days.first[month] + day);
                    if (here != period) {
                        keepChosen();
                        period = here;
                    }
                    gather(month, day);
                    suiting &= suiting - 1;
                }
            }
            keepChosen();
        }

        private void gather(int month, int day) {
            if (gatheredCount < gathered.length) {
                gathered[gatheredCount] = 32 * month + day;
                gatheredCount++;
            }
        }

        private void keepChosen() {
            for (int place = 0; place < gatheredCount; place++) {
                if (rule.isChosen(place, gatheredCount)) {
                    row[gathered[place] / 32] |= 1 << gathered[place] % 32;
                }
            }
            gatheredCount = 0;
        }

        /** Leaves out what is before the start, behind UNTIL, or beyond COUNT. */
        private void cutEnds(int from, int to) {
            int first = Days.monthOf(start);
            int last = Days.monthOf(rule.until);
            int left = rule.count;
            for (int month = from; month <= to; month++) {
                boolean isOutside = month < first || month > last;
                int inside = isOutside ? 0 : row[month] & Days.between(month, start, rule.until);
                row[month] = Days.lowest(inside, left);
                left -= Integer.bitCount(row[month]);
            }
        }
    }
}
