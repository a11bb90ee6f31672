/**
 * A press for labels of trade items (GS1): it reads element strings, in brackets or as scanners
 * hand them over, writes them, keeps them, prints them as bar code symbols (Code 128) and scans
 * those from bars. README.md tells how to use it.
 */
public final class LabelPress {
    public static final int NONE = -1;

    private static final int TAPE_BYTES = 600;
    private static final int STRIP_MODULES = 2000;
    private static final int SYMBOL_BYTES = 48;
    private static final int MOST_ELEMENTS = 20;
    private static final int MOST_VALUE = 90;
    private static final int MOST_AI = 4;
    private static final int MOST_CHECKED = 30;
    private static final int MOST_CHARACTERS = 100;
    private static final int SHELVES = 8;
    private static final int EMPTY_MARGIN = 10;
    private static final int SEPARATOR = 29;

    private final Row tape;
    private final Row out;
    private final Row strip;
    private final Row string;
    private final Row symbol;
    private final Label list;
    private final Label joined;
    private final Label[] shelves;
    private final TextReader textReader;
    private final Encoder encoder;
    private final Bars bars;
    private final BarReader barReader;
    private int clockYear;
    private int faultSort;
    private int faultPlace;
    private int scannedCharacters;
    private int scannedBytes;
    private boolean scannedFromRight;

    public LabelPress() {
        tape = new Row(TAPE_BYTES);
        // In brackets an AI stands in two bytes more, and each byte of a VALUE may need a \ ahead.
        out = new Row(MOST_ELEMENTS * (MOST_AI + 2 + 2 * MOST_VALUE));
        strip = new Row(STRIP_MODULES);
        string = new Row(MOST_ELEMENTS * (MOST_AI + 1 + MOST_VALUE));
        symbol = new Row(MOST_CHARACTERS);
        list = new Label();
        joined = new Label();
        shelves = new Label[SHELVES];
        for (int i = 0; i < SHELVES; i++) {
            shelves[i] = new Label();
        }
        textReader = new TextReader();
        encoder = new Encoder();
        bars = new Bars();
        barReader = new BarReader(bars);
        clockYear = 2025;
        faultSort = 0;
        faultPlace = NONE;
    }

    public int feed(int a, int b, int c, int d, int e) {
        if (tape.count() + 20 > TAPE_BYTES) {
            return NONE;
        }
        putBytes(a);
        putBytes(b);
        putBytes(c);
        putBytes(d);
        putBytes(e);
        return tape.count();
    }

    private void putBytes(int number) {
        for (int shift = 24; shift >= 0; shift -= 8) {
            tape.put((number >> shift) & 255);
        }
    }

    public boolean end(int n) {
        return tape.shorten(n);
    }

    public int take() {
        // The tape has less room than OUT: what goes beyond it is left.
        tape.copyFrom(out);
        return tape.count();
    }

    public boolean clock(int year) {
        if (year < 1950 || year > 2200) {
            return false;
        }
        clockYear = year;
        return true;
    }

    public int read(boolean inBrackets) {
        textReader.readText(tape, inBrackets, true, clockYear);
        tape.clear();
        return acceptText();
    }

    /** The list is what was read from a text, unless that has a FAULT. */
    private int acceptText() {
        noteFault(textReader.faultSort(), textReader.faultPlace());
        if (faultSort != 0) {
            return NONE;
        }
        list.copyFrom(textReader.label());
        return list.count();
    }

    private void noteFault(int sort, int place) {
        faultSort = sort;
        faultPlace = place;
    }

    public int fault(int what) {
        switch (what) {
            case 0:
                return faultSort;
            case 1:
                return faultPlace;
            default:
                return NONE;
        }
    }

    public int list(int what) {
        switch (what) {
            case 0:
                return list.count();
            case 1:
                return list.stringBytes();
            case 2:
                return list.symbols();
            default:
                return NONE;
        }
    }

    public int element(int k, int what) throws IndexOutOfBoundsException {
        Element element = elementAt(k);
        switch (what) {
            case 0:
                return element.ai();
            case 1:
                return element.digits();
            case 2:
                return element.value().count();
            case 3:
                return element.parts();
            case 4:
                return element.point();
            case 5:
                return element.isFixed() ? 1 : 0;
            default:
                return NONE;
        }
    }

    private Element elementAt(int k) {
        Element element = list.at(k);
        if (element == null) {
            throw new IndexOutOfBoundsException("there is no such element");
        }
        return element;
    }

    public int letter(int k, int i) throws IndexOutOfBoundsException {
        return elementAt(k).value().at(i);
    }

    public int part(int k, int j, int what) throws IndexOutOfBoundsException {
        Element element = elementAt(k);
        if (element.partBegin(j) == NONE) {
            return NONE;
        }
        switch (what) {
            case 0:
                return element.partSort(j);
            case 1:
                return element.partBegin(j);
            case 2:
                return element.partBytes(j);
            default:
                return NONE;
        }
    }

    public long number(int k, int j)
            throws IndexOutOfBoundsException, java.util.NoSuchElementException {
        Element element = elementAt(k);
        if (element.partBegin(j) == NONE) {
            throw new java.util.NoSuchElementException("there is no such part");
        }
        if (element.partSort(j) == Table.SORT_X) {
            return NONE;
        }
        return element.value().digitsAt(element.partBegin(j), element.partBytes(j));
    }

    public int date(int k, int j, int what)
            throws IndexOutOfBoundsException, java.util.NoSuchElementException {
        Element element = elementAt(k);
        if (element.partBegin(j) == NONE || element.partSort(j) != Table.SORT_D) {
            throw new java.util.NoSuchElementException("there is no such date");
        }
        int begin = element.partBegin(j);
        Row value = element.value();
        int year = Days.yearMeant(value.twoDigits(begin), element.clockYear());
        int month = value.twoDigits(begin + 2);
        int day = value.twoDigits(begin + 4);
        switch (what) {
            case 0:
                return year;
            case 1:
                return month;
            case 2:
                return day == 0 ? Days.lastDay(year, month) : day;
            default:
                return NONE;
        }
    }

    public int find(int ai, int digits) {
        return list.placeOf(ai, digits);
    }

    public int write(boolean inBrackets) {
        out.clear();
        if (inBrackets) {
            list.writeInBrackets(out);
        } else {
            list.writeString(out, 0, list.count());
        }
        return out.count();
    }

    public int out(int i) {
        return out.at(i);
    }

    public int arrange() {
        return list.fixedAhead();
    }

    public int shelve(int shelf) throws IndexOutOfBoundsException {
        shelfAt(shelf).copyFrom(list);
        return list.count();
    }

    private Label shelfAt(int shelf) {
        if (shelf < 0 || shelf >= SHELVES) {
            throw new IndexOutOfBoundsException("there is no such shelf");
        }
        return shelves[shelf];
    }

    public int fetch(int shelf) throws IndexOutOfBoundsException {
        list.copyFrom(shelfAt(shelf));
        return list.count();
    }

    public boolean same(int shelf) throws IndexOutOfBoundsException {
        return list.isSameAs(shelfAt(shelf));
    }

    public int join(int shelf) throws IndexOutOfBoundsException {
        Label kept = shelfAt(shelf);
        // The list must stay if they don't go together: they are put together elsewhere first.
        joined.copyFrom(list);
        if (!joined.append(kept) || !joined.goesTogether()) {
            return NONE;
        }
        list.copyFrom(joined);
        return list.count();
    }

    public int check() {
        int n = tape.count();
        boolean checkable = n > 0 && n <= MOST_CHECKED && tape.areDigits(0, n);
        int answer = checkable ? tape.checkDigit(0, n) : NONE;
        tape.clear();
        return answer;
    }

    public int symbol(int k) throws IndexOutOfBoundsException {
        elementAt(k);
        int end = list.symbolEnd(k);
        if (end == k) {
            return NONE;
        }
        string.clear();
        list.writeString(string, k, end);
        encoder.encode(string, symbol);
        return end - k;
    }

    public int character(int i) {
        return symbol.at(i);
    }

    public int print() throws IllegalStateException {
        if (symbol.count() == 0) {
            throw new IllegalStateException("there is no symbol");
        }
        strip.clear();
        putSpaces();
        for (int i = 0; i < symbol.count(); i++) {
            bars.put(strip, symbol.at(i));
        }
        putSpaces();
        return strip.count();
    }

    private void putSpaces() {
        for (int i = 0; i < EMPTY_MARGIN; i++) {
            strip.put(0);
        }
    }

    public int bars(int a, int b, int c, int d, int e) {
        if (strip.count() + 160 > STRIP_MODULES) {
            return NONE;
        }
        putModules(a);
        putModules(b);
        putModules(c);
        putModules(d);
        putModules(e);
        return strip.count();
    }

    private void putModules(int number) {
        for (int shift = 31; shift >= 0; shift--) {
            strip.put((number >> shift) & 1);
        }
    }

    public boolean cut(int n) {
        return strip.shorten(n);
    }

    public int turn() {
        strip.turnRound();
        return strip.count();
    }

    public int ink(int i, boolean bar) {
        return strip.replace(i, bar ? 1 : 0);
    }

    public int module(int i) {
        return strip.at(i);
    }

    public int scan() {
        barReader.readBars(strip);
        noteFault(barReader.faultSort(), barReader.faultPlace());
        if (faultSort != 0) {
            return NONE;
        }
        scannedCharacters = barReader.characters();
        scannedFromRight = barReader.isFromRight();
        barReader.tell(string);
        noteFault(barReader.faultSort(), barReader.faultPlace());
        scannedBytes = faultSort == 0 ? string.count() : 0;
        if (faultSort != 0) {
            return NONE;
        }
        textReader.readText(string, false, false, clockYear);
        return acceptText();
    }

    public int scanned(int what) {
        switch (what) {
            case 0:
                return scannedCharacters;
            case 1:
                return scannedBytes;
            case 2:
                return scannedFromRight ? 1 : 0;
            default:
                return NONE;
        }
    }

    /** Numbers one behind the other (bytes, MODULES, CHARACTERS), as many as there is room for. */
    private static final class Row {
        private final int[] cells;
        private int count;

        Row(int room) {
            cells = new int[Math.max(room, 0)];
            count = 0;
        }

        int count() {
            return count;
        }

        int at(int i) {
            return i < 0 || i >= count ? NONE : cells[i];
        }

        void put(int number) {
            if (count < cells.length) {
                cells[count] = number;
                count++;
            }
        }

        /** The number that stood there; NONE, doing nothing, if there is no such place. */
        int replace(int i, int number) {
            if (i < 0 || i >= count) {
                return NONE;
            }
            int old = cells[i];
            cells[i] = number;
            return old;
        }

        void clear() {
            count = 0;
        }

        boolean shorten(int n) {
            if (n < 0 || n > count) {
                return false;
            }
            count = n;
            return true;
        }

        void copyFrom(Row other) {
            int n = Math.min(other.count, cells.length);
            System.arraycopy(other.cells, 0, cells, 0, n);
            count = n;
        }

        void append(Row other) {
            for (int i = 0; i < other.count; i++) {
                put(other.cells[i]);
            }
        }

        void turnRound() {
            for (int i = 0; i < count / 2; i++) {
                int j = count - 1 - i;
                int number = cells[i];
                cells[i] = cells[j];
                cells[j] = number;
            }
        }

        boolean isSameAs(Row other) {
            if (count != other.count) {
                return false;
            }
            for (int i = 0; i < count; i++) {
                if (cells[i] != other.cells[i]) {
                    return false;
                }
            }
            return true;
        }

        /** Whether there are so many bytes from there on, all of them digits. */
        boolean areDigits(int from, int n) {
            if (from < 0 || n < 0 || n > count - from) {
                return false;
            }
            for (int i = from; i < from + n; i++) {
                if (cells[i] < '0' || cells[i] > '9') {
                    return false;
                }
            }
            return true;
        }

        /** The number that these digits tell; NONE if they are none. */
        long digitsAt(int from, int n) {
            if (!areDigits(from, n)) {
                return NONE;
            }
            long number = 0;
            for (int i = from; i < from + n; i++) {
                number = number * 10 + (cells[i] - '0');
            }
            return number;
        }

        int twoDigits(int from) {
            return areDigits(from, 2) ? (cells[from] - '0') * 10 + cells[from + 1] - '0' : NONE;
        }

        /** The CHECK of these digits; NONE if they are none. */
        int checkDigit(int from, int n) {
            if (!areDigits(from, n)) {
                return NONE;
            }
            int sum = 0;
            int weight = 3;
            for (int i = from + n - 1; i >= from; i--) {
                sum += (cells[i] - '0') * weight;
                weight = 4 - weight;
            }
            return (10 - sum % 10) % 10;
        }
    }

    /** What the calendar tells of DATES. */
    private static final class Days {
        static int yearMeant(int lastDigits, int clockYear) {
            int earliest = clockYear - 49;
            return earliest + Math.floorMod(lastDigits - earliest, 100);
        }

        static int lastDay(int year, int month) {
            boolean leap = year % 4 == 0 && (year % 100 != 0 || year % 400 == 0);
            switch (month) {
                case 2:
                    return leap ? 29 : 28;
                case 4:
                case 6:
                case 9:
                case 11:
                    return 30;
                default:
                    return 31;
            }
        }

        static boolean isDate(int year, int month, int day) {
            return month >= 1 && month <= 12 && day >= 0 && day <= lastDay(year, month);
        }

        static boolean isTime(int hour, int minute) {
            return hour >= 0 && hour <= 23 && minute >= 0 && minute <= 59;
        }
    }

    /** The table of identifiers, and what they want of one another. */
    private static final class Table {
        static final int SORT_X = 2;
        static final int SORT_K = 3;
        static final int SORT_D = 4;
        static final int SORT_T = 5;
        static final int MOST_PARTS = 4;

        private static final String MARKS = "!\"%&'()*+,-./:;<=>?_";

        // A line: the first and the last AI (without p), their digits (without p), the highest p
        // (-1: none), then the PARTS, 0 where there is none. A PART is 1000 times its sort (1 n,
        // 2 x, 3 k, 4 d, 5 t), 10 times its K, and 1 if it may have fewer bytes, 2 if it may be
        // left out, 3 if both.
        private static final int LINE = 8;
        private static final int[] LINES = {
            0, 0, 2, -1, 3180, 0, 0, 0,
            1, 2, 2, -1, 3140, 0, 0, 0,
            10, 10, 2, -1, 2201, 0, 0, 0,
            11, 13, 2, -1, 4060, 0, 0, 0,
            15, 17, 2, -1, 4060, 0, 0, 0,
            20, 20, 2, -1, 1020, 0, 0, 0,
            21, 22, 2, -1, 2201, 0, 0, 0,
            30, 30, 2, -1, 1081, 0, 0, 0,
            37, 37, 2, -1, 1081, 0, 0, 0,
            90, 90, 2, -1, 2301, 0, 0, 0,
            91, 99, 2, -1, 2901, 0, 0, 0,
            235, 235, 3, -1, 2281, 0, 0, 0,
            240, 241, 3, -1, 2301, 0, 0, 0,
            242, 242, 3, -1, 1061, 0, 0, 0,
            243, 243, 3, -1, 2201, 0, 0, 0,
            250, 251, 3, -1, 2301, 0, 0, 0,
            253, 253, 3, -1, 3130, 2173, 0, 0,
            254, 254, 3, -1, 2201, 0, 0, 0,
            255, 255, 3, -1, 3130, 1123, 0, 0,
            310, 316, 3, 5, 1060, 0, 0, 0,
            320, 337, 3, 5, 1060, 0, 0, 0,
            340, 357, 3, 5, 1060, 0, 0, 0,
            360, 369, 3, 5, 1060, 0, 0, 0,
            390, 390, 3, 9, 1151, 0, 0, 0,
            391, 391, 3, 9, 1030, 1151, 0, 0,
            392, 392, 3, 9, 1151, 0, 0, 0,
            393, 393, 3, 9, 1030, 1151, 0, 0,
            394, 394, 3, 3, 1040, 0, 0, 0,
            395, 395, 3, 5, 1060, 0, 0, 0,
            400, 401, 3, -1, 2301, 0, 0, 0,
            402, 402, 3, -1, 3170, 0, 0, 0,
            403, 403, 3, -1, 2301, 0, 0, 0,
            410, 417, 3, -1, 3130, 0, 0, 0,
            420, 420, 3, -1, 2201, 0, 0, 0,
            421, 421, 3, -1, 1030, 2091, 0, 0,
            422, 422, 3, -1, 1030, 0, 0, 0,
            424, 424, 3, -1, 1030, 0, 0, 0,
            426, 426, 3, -1, 1030, 0, 0, 0,
            427, 427, 3, -1, 2031, 0, 0, 0,
            7001, 7001, 4, -1, 1130, 0, 0, 0,
            7002, 7002, 4, -1, 2301, 0, 0, 0,
            7003, 7003, 4, -1, 4060, 5040, 0, 0,
            7004, 7004, 4, -1, 1041, 0, 0, 0,
            7005, 7005, 4, -1, 2121, 0, 0, 0,
            7006, 7006, 4, -1, 4060, 0, 0, 0,
            7007, 7007, 4, -1, 4060, 4062, 0, 0,
            7008, 7008, 4, -1, 2031, 0, 0, 0,
            7009, 7009, 4, -1, 2101, 0, 0, 0,
            7010, 7010, 4, -1, 2021, 0, 0, 0,
            7030, 7039, 4, -1, 1030, 2271, 0, 0,
            8001, 8001, 4, -1, 1140, 0, 0, 0,
            8002, 8002, 4, -1, 2201, 0, 0, 0,
            8003, 8003, 4, -1, 3140, 2163, 0, 0,
            8004, 8004, 4, -1, 2301, 0, 0, 0,
            8005, 8005, 4, -1, 1060, 0, 0, 0,
            8006, 8006, 4, -1, 3140, 1020, 1020, 0,
            8007, 8007, 4, -1, 2341, 0, 0, 0,
            8008, 8008, 4, -1, 4060, 1020, 1022, 1022,
            8011, 8011, 4, -1, 1121, 0, 0, 0,
            8012, 8012, 4, -1, 2201, 0, 0, 0,
            8013, 8013, 4, -1, 2251, 0, 0, 0,
            8017, 8018, 4, -1, 3180, 0, 0, 0,
            8019, 8019, 4, -1, 1101, 0, 0, 0,
            8020, 8020, 4, -1, 2251, 0, 0, 0,
            8026, 8026, 4, -1, 3140, 1020, 1020, 0,
        };

        // A want: the first and the last AI (without p) that have it, 1 if it is one of the AIS
        // behind, 0 if it is none of them, then these AIS (-1: no further one).
        private static final int WANT = 7;
        private static final int[] WANTS = {
            1, 1, 0, 2, -1, -1, -1,
            2, 2, 1, 37, -1, -1, -1,
            10, 10, 1, 1, 2, 8006, 8026,
            11, 11, 1, 1, 2, 8006, 8026,
            13, 13, 1, 1, 2, 8006, 8026,
            15, 17, 1, 1, 2, 8006, 8026,
            21, 21, 1, 1, 8006, -1, -1,
            37, 37, 1, 2, -1, -1, -1,
            310, 316, 1, 1, 2, -1, -1,
            390, 391, 1, 255, 8020, -1, -1,
            392, 393, 1, 1, -1, -1, -1,
            420, 420, 0, 421, -1, -1, -1,
            8018, 8018, 0, 8017, -1, -1, -1,
        };

        /** The line of that AI; NONE if the table has it not. */
        static int lineOf(int ai, int digits) {
            for (int i = 0; i + LINE <= LINES.length; i += LINE) {
                int highest = LINES[i + 3];
                int own = highest == NONE ? ai : ai / 10;
                int ownDigits = highest == NONE ? digits : digits - 1;
                boolean rightPoint = highest == NONE || ai % 10 <= highest;
                if (own >= LINES[i] && own <= LINES[i + 1]
                        && ownDigits == LINES[i + 2] && rightPoint) {
                    return i / LINE;
                }
            }
            return NONE;
        }

        private static int cell(int line, int column) {
            int i = line * LINE + column;
            return line < 0 || i < 0 || i >= LINES.length ? 0 : LINES[i];
        }

        static boolean hasPoint(int line) {
            return cell(line, 3) != NONE;
        }

        static boolean isFixed(int ai, int digits) {
            int begin = digits == 4 ? ai / 100 : digits == 3 ? ai / 10 : ai;
            return begin <= 2 || begin >= 11 && begin <= 17 || begin == 20
                    || begin >= 31 && begin <= 36 || begin == 41;
        }

        /** PART j as the line has it; 0 if it has none such. */
        static int partAt(int line, int j) {
            return j < 0 || j >= MOST_PARTS ? 0 : cell(line, 4 + j);
        }

        static int sort(int part) {
            return part / 1000;
        }

        static int mostBytes(int part) {
            return part / 10 % 100;
        }

        static boolean mayBeShorter(int part) {
            return (part & 1) != 0;
        }

        static boolean mayBeLeftOut(int part) {
            return part % 10 >= 2;
        }

        static boolean fits(int b, int sort) {
            return b >= '0' && b <= '9' || sort == SORT_X && isLetterOrMark(b);
        }

        private static boolean isLetterOrMark(int b) {
            return b >= 'A' && b <= 'Z' || b >= 'a' && b <= 'z'
                    || b >= 0 && MARKS.indexOf((char) b) >= 0;
        }

        static int wants() {
            return WANTS.length / WANT;
        }

        /** Whether the want is one of that AI (without p). */
        static boolean isWantOf(int want, int family) {
            return family >= wantCell(want, 0) && family <= wantCell(want, 1);
        }

        static boolean wantsOne(int want) {
            return wantCell(want, 2) == 1;
        }

        /** AI j of the want; NONE if it has none such. */
        static int wanted(int want, int j) {
            return j < 0 || j >= WANT - 3 ? NONE : wantCell(want, 3 + j);
        }

        private static int wantCell(int want, int column) {
            int i = want * WANT + column;
            return want < 0 || i < 0 || i >= WANTS.length ? NONE : WANTS[i];
        }
    }

    /** An AI and its VALUE. */
    private static final class Element {
        private final Row value;
        private int ai;
        private int digits;
        private int line;
        private int family;
        private int clockYear;

        Element() {
            value = new Row(MOST_VALUE);
        }

        /** It begins anew, with no VALUE yet. */
        void begin(int newAi, int newDigits, int newLine, int newClockYear) {
            ai = newAi;
            digits = newDigits;
            line = newLine;
            family = Table.hasPoint(newLine) ? newAi / 10 : newAi;
            // DATES go on meaning the years that they meant when they were read.
            clockYear = newClockYear;
            value.clear();
        }

        void copyFrom(Element other) {
            ai = other.ai;
            digits = other.digits;
            line = other.line;
            family = other.family;
            clockYear = other.clockYear;
            value.copyFrom(other.value);
        }

        boolean isSameAs(Element other) {
            return ai == other.ai && digits == other.digits && value.isSameAs(other.value);
        }

        int ai() {
            return ai;
        }

        int digits() {
            return digits;
        }

        int line() {
            return line;
        }

        int clockYear() {
            return clockYear;
        }

        Row value() {
            return value;
        }

        /** The AI without p: two ELEMENTS that differ in p alone have the same one. */
        int family() {
            return family;
        }

        int point() {
            return Table.hasPoint(line) ? ai % 10 : NONE;
        }

        boolean isFixed() {
            return Table.isFixed(ai, digits);
        }

        int parts() {
            int parts = 0;
            for (int j = 0; j < Table.MOST_PARTS; j++) {
                if (partBegin(j) != NONE) {
                    parts++;
                }
            }
            return parts;
        }

        /** Where PART j begins in the VALUE; NONE if there is none such. */
        int partBegin(int j) {
            if (Table.partAt(line, j) == 0) {
                return NONE;
            }
            // A PART that may be shorter is the last one: those ahead have all their bytes.
            int begin = 0;
            for (int i = 0; i < j; i++) {
                begin += Table.mostBytes(Table.partAt(line, i));
            }
            return begin < value.count() ? begin : NONE;
        }

        int partBytes(int j) {
            int begin = partBegin(j);
            if (begin == NONE) {
                return NONE;
            }
            return Math.min(Table.mostBytes(Table.partAt(line, j)), value.count() - begin);
        }

        int partSort(int j) {
            return Table.sort(Table.partAt(line, j));
        }

        void writeAi(Row row) {
            int unit = digits == 4 ? 1000 : digits == 3 ? 100 : 10;
            for (int i = 0; i < digits; i++) {
                row.put('0' + ai / unit % 10);
                unit = Math.max(unit / 10, 1);
            }
        }

        void writeInBrackets(Row row) {
            row.put('(');
            writeAi(row);
            row.put(')');
            for (int i = 0; i < value.count(); i++) {
                if (value.at(i) == '(') {
                    row.put('\\');
                }
                row.put(value.at(i));
            }
        }
    }

    /** ELEMENTS in their order, at most twenty. */
    private static final class Label {
        private final Element[] elements;
        private final Element[] arranged;
        private int count;

        Label() {
            elements = new Element[MOST_ELEMENTS];
            arranged = new Element[MOST_ELEMENTS];
            for (int k = 0; k < MOST_ELEMENTS; k++) {
                elements[k] = new Element();
            }
            count = 0;
        }

        int count() {
            return count;
        }

        void clear() {
            count = 0;
        }

        /** ELEMENT k; null if there is none such. */
        Element at(int k) {
            return k < 0 || k >= count ? null : elements[k];
        }

        /** A further ELEMENT at the end; null if there would be too many. */
        Element grow() {
            if (count >= MOST_ELEMENTS) {
                return null;
            }
            count++;
            return elements[count - 1];
        }

        void copyFrom(Label other) {
            for (int k = 0; k < other.count; k++) {
                elements[k].copyFrom(other.elements[k]);
            }
            count = other.count;
        }

        /** False, doing nothing, if there would be too many. */
        boolean append(Label other) {
            if (count + other.count > MOST_ELEMENTS) {
                return false;
            }
            for (int k = 0; k < other.count; k++) {
                elements[count + k].copyFrom(other.elements[k]);
            }
            count += other.count;
            return true;
        }

        boolean isSameAs(Label other) {
            if (count != other.count) {
                return false;
            }
            for (int k = 0; k < count; k++) {
                if (!elements[k].isSameAs(other.elements[k])) {
                    return false;
                }
            }
            return true;
        }

        int placeOf(int ai, int digits) {
            for (int k = 0; k < count; k++) {
                if (elements[k].ai() == ai && elements[k].digits() == digits) {
                    return k;
                }
            }
            return NONE;
        }

        /** The first ELEMENT with that AI (without p); NONE if there is none. */
        private int placeOfFamily(int family) {
            for (int k = 0; k < count; k++) {
                if (elements[k].family() == family) {
                    return k;
                }
            }
            return NONE;
        }

        boolean isRepeated(int k) {
            return k >= 0 && k < count && placeOfFamily(elements[k].family()) != k;
        }

        boolean isWantMet(int k) {
            if (k < 0 || k >= count) {
                return true;
            }
            for (int want = 0; want < Table.wants(); want++) {
                if (Table.isWantOf(want, elements[k].family())
                        && hasWanted(want) != Table.wantsOne(want)) {
                    return false;
                }
            }
            return true;
        }

        private boolean hasWanted(int want) {
            for (int j = 0; j < Table.WANT; j++) {
                int wanted = Table.wanted(want, j);
                if (wanted != NONE && placeOfFamily(wanted) != NONE) {
                    return true;
                }
            }
            return false;
        }

        /** Whether each AI stands once and each WANT is met. */
        boolean goesTogether() {
            for (int k = 0; k < count; k++) {
                if (isRepeated(k) || !isWantMet(k)) {
                    return false;
                }
            }
            return true;
        }

        /** Those that are FIXED come ahead: how many stand elsewhere then. */
        int fixedAhead() {
            int placed = 0;
            int moved = 0;
            for (int round = 0; round < 2; round++) {
                for (int k = 0; k < count; k++) {
                    if (elements[k].isFixed() == (round == 0)) {
                        moved += placed == k ? 0 : 1;
                        arranged[placed] = elements[k];
                        placed++;
                    }
                }
            }
            for (int k = 0; k < count; k++) {
                elements[k] = arranged[k];
            }
            return moved;
        }

        /** What ELEMENT k adds to a STRING that begins with ELEMENT from. */
        private int bytesOf(int k, int from) {
            int separators = k > from && !elements[k - 1].isFixed() ? 1 : 0;
            return separators + elements[k].digits() + elements[k].value().count();
        }

        int stringBytes() {
            int bytes = 0;
            for (int k = 0; k < count; k++) {
                bytes += bytesOf(k, 0);
            }
            return bytes;
        }

        /** The ELEMENT ahead of which a symbol ends that begins with ELEMENT from. */
        int symbolEnd(int from) {
            int bytes = 0;
            for (int k = Math.max(from, 0); k < count; k++) {
                bytes += bytesOf(k, from);
                if (bytes > SYMBOL_BYTES) {
                    return k;
                }
            }
            return count;
        }

        /** How many symbols all of them take; NONE if one of them goes in none. */
        int symbols() {
            int begin = 0;
            for (int symbols = 0; symbols <= MOST_ELEMENTS; symbols++) {
                if (begin >= count) {
                    return symbols;
                }
                int end = symbolEnd(begin);
                if (end == begin) {
                    return NONE;
                }
                begin = end;
            }
            return NONE;
        }

        /** The STRING of the ELEMENTS from one on to the one ahead of another. */
        void writeString(Row row, int from, int to) {
            for (int k = Math.max(from, 0); k < to && k < count; k++) {
                if (k > from && !elements[k - 1].isFixed()) {
                    row.put(SEPARATOR);
                }
                elements[k].writeAi(row);
                row.append(elements[k].value());
            }
        }

        void writeInBrackets(Row row) {
            for (int k = 0; k < count; k++) {
                elements[k].writeInBrackets(row);
            }
        }
    }

    /** Reads a text, IN BRACKETS or as a STRING, up to its first FAULT. */
    private static final class TextReader {
        private static final int FAULT_END = 1;
        private static final int FAULT_AI = 2;
        private static final int FAULT_LENGTH = 3;
        private static final int FAULT_BYTE = 4;
        private static final int FAULT_CHECK = 5;
        private static final int FAULT_DATE = 6;
        private static final int FAULT_REPEATED = 7;
        private static final int FAULT_WANT = 8;
        private static final int FAULT_TOO_MANY = 9;

        private final Label label;
        private final Row aiPlaces;
        private Row text;
        private boolean inBrackets;
        private int clockYear;
        private int place;
        private int faultSort;
        private int faultPlace;

        TextReader() {
            label = new Label();
            aiPlaces = new Row(MOST_ELEMENTS);
            text = new Row(0);
        }

        /** What was read, if there was no FAULT. */
        Label label() {
            return label;
        }

        int faultSort() {
            return faultSort;
        }

        int faultPlace() {
            return faultPlace;
        }

        void readText(Row newText, boolean bracketed, boolean asksWants, int year) {
            text = newText;
            inBrackets = bracketed;
            clockYear = year;
            place = 0;
            faultSort = 0;
            faultPlace = NONE;
            label.clear();
            aiPlaces.clear();
            // One turn more than there may be ELEMENTS: the last one tells that there are too many.
            for (int n = 0; n <= MOST_ELEMENTS; n++) {
                Element element = inBrackets ? readBracketedAi() : readPlainAi();
                if (element == null || !readValue(element)) {
                    return;
                }
                if (place >= text.count()) {
                    break;
                }
                if (!inBrackets && text.at(place) == SEPARATOR) {
                    place++;
                }
            }
            judgeTogether(asksWants);
        }

        /** Notes a FAULT: always false. */
        private boolean refuse(int sort, int where) {
            faultSort = sort;
            faultPlace = where;
            return false;
        }

        /** The next ELEMENT, with its AI alone; null with a FAULT. */
        private Element readBracketedAi() {
            if (text.at(place) != '(') {
                refuse(FAULT_END, place);
                return null;
            }
            place++;
            if (place >= text.count()) {
                refuse(FAULT_END, place);
                return null;
            }
            int end = place;
            while (end < text.count() && text.at(end) != ')') {
                end++;
            }
            Element element = newElement(end - place);
            if (element == null) {
                return null;
            }
            place = end;
            if (place >= text.count()) {
                refuse(FAULT_END, place);
                return null;
            }
            place++;
            return element;
        }

        /** The next ELEMENT, with its AI alone; null with a FAULT. */
        private Element readPlainAi() {
            if (place >= text.count()) {
                refuse(FAULT_END, place);
                return null;
            }
            // No AI of the table begins with another one: the first that is found is the only one.
            int digits = 2;
            while (digits < MOST_AI && lineAt(digits) == NONE) {
                digits++;
            }
            Element element = newElement(digits);
            if (element != null) {
                place += digits;
            }
            return element;
        }

        /** The table's line of the AI that stands there with so many digits; NONE without. */
        private int lineAt(int digits) {
            if (digits > MOST_AI || !text.areDigits(place, digits)) {
                return NONE;
            }
            return Table.lineOf((int) text.digitsAt(place, digits), digits);
        }

        /** An ELEMENT whose AI are the digits that stand there; null with a FAULT. */
        private Element newElement(int digits) {
            int line = lineAt(digits);
            if (line == NONE) {
                refuse(FAULT_AI, place);
                return null;
            }
            Element element = label.grow();
            if (element == null) {
                refuse(FAULT_TOO_MANY, place);
                return null;
            }
            element.begin((int) text.digitsAt(place, digits), digits, line, clockYear);
            aiPlaces.put(place);
            return element;
        }

        /** Its bytes, and what they tell; false with a FAULT. */
        private boolean readValue(Element element) {
            Row value = element.value();
            for (int j = 0; j < Table.MOST_PARTS; j++) {
                int part = Table.partAt(element.line(), j);
                if (part == 0 || Table.mayBeLeftOut(part) && isValueOver()) {
                    break;
                }
                int from = value.count();
                int begin = place;
                if (!readPart(value, part) || !judgePart(value, part, from, begin)) {
                    return false;
                }
            }
            // In a STRING nothing but its length tells where a VALUE of a FIXED AI ends.
            boolean endsByLength = !inBrackets && element.isFixed();
            return endsByLength || isValueOver() || refuse(FAULT_LENGTH, place);
        }

        private boolean isValueOver() {
            return place >= text.count() || text.at(place) == (inBrackets ? '(' : SEPARATOR);
        }

        /** Its bytes come behind those of the VALUE; false with a FAULT. */
        private boolean readPart(Row value, int part) {
            for (int n = 0; n < Table.mostBytes(part); n++) {
                if (isValueOver()) {
                    if (n > 0 && Table.mayBeShorter(part)) {
                        break;
                    }
                    return refuse(FAULT_LENGTH, place);
                }
                boolean escaped = isEscapedBracket();
                int b = escaped ? '(' : text.at(place);
                if (!Table.fits(b, Table.sort(part))) {
                    return refuse(FAULT_BYTE, place);
                }
                value.put(b);
                place += escaped ? 2 : 1;
            }
            return true;
        }

        private boolean isEscapedBracket() {
            return inBrackets && text.at(place) == '\\' && text.at(place + 1) == '(';
        }

        /** Looks at a PART that begins there in the VALUE and in the text; false with a FAULT. */
        private boolean judgePart(Row value, int part, int from, int begin) {
            switch (Table.sort(part)) {
                case Table.SORT_K:
                    return isKey(value, from) || refuse(FAULT_CHECK, place - 1);
                case Table.SORT_D:
                    return isDate(value, from) || refuse(FAULT_DATE, begin);
                case Table.SORT_T:
                    return isTime(value, from) || refuse(FAULT_DATE, begin);
                default:
                    return true;
            }
        }

        private boolean isKey(Row value, int from) {
            int last = value.count() - 1;
            return value.at(last) - '0' == value.checkDigit(from, last - from);
        }

        private boolean isDate(Row value, int from) {
            int year = Days.yearMeant(value.twoDigits(from), clockYear);
            return Days.isDate(year, value.twoDigits(from + 2), value.twoDigits(from + 4));
        }

        private boolean isTime(Row value, int from) {
            return Days.isTime(value.twoDigits(from), value.twoDigits(from + 2));
        }

        private void judgeTogether(boolean asksWants) {
            for (int k = 0; k < label.count(); k++) {
                if (label.isRepeated(k)) {
                    refuse(FAULT_REPEATED, aiPlaces.at(k));
                    return;
                }
                if (asksWants && !label.isWantMet(k)) {
                    refuse(FAULT_WANT, aiPlaces.at(k));
                    return;
                }
            }
        }
    }

    /** The numbers of those CHARACTERS that are no data. */
    private static final class Code {
        static final int SHIFT = 98;
        static final int TO_C = 99;
        static final int TO_B = 100;
        static final int TO_A = 101;
        static final int FNC1 = 102;
        static final int START_A = 103;
        static final int START_B = 104;
        static final int START_C = 105;
        static final int STOP = 106;

        /** The CHECK of the first n CHARACTERS, START among them. */
        static int checkCharacter(Row characters, int n) {
            int sum = characters.at(0);
            for (int i = 1; i < n; i++) {
                sum += characters.at(i) * i;
            }
            return Math.floorMod(sum, 103);
        }
    }

    /** Finds the fewest CHARACTERS that tell a STRING. */
    private static final class Encoder {
        private static final int FAR = 1000000;

        // How many CHARACTERS the bytes from one on take at least, in each of the two sets; the
        // STRING's end and a place behind it have their cells, too.
        private final int[] costB;
        private final int[] costC;
        private Row string;

        Encoder() {
            costB = new int[SYMBOL_BYTES + 2];
            costC = new int[SYMBOL_BYTES + 2];
            string = new Row(0);
        }

        void encode(Row newString, Row symbol) {
            string = newString;
            countBackwards();
            symbol.clear();
            boolean inC = costC[0] < costB[0];
            symbol.put(inC ? Code.START_C : Code.START_B);
            symbol.put(Code.FNC1);
            int i = 0;
            // Each byte takes two CHARACTERS at most: a change and its own.
            for (int n = 0; n < 2 * SYMBOL_BYTES && i < string.count(); n++) {
                if (isChangeBest(i, inC)) {
                    symbol.put(inC ? Code.TO_B : Code.TO_C);
                    inC = !inC;
                } else {
                    symbol.put(straightCharacter(i, inC));
                    i += inC ? bytesInC(i) : 1;
                }
            }
            symbol.put(Code.checkCharacter(symbol, symbol.count()));
            symbol.put(Code.STOP);
        }

        private void countBackwards() {
            int end = Math.min(string.count(), SYMBOL_BYTES);
            costB[end] = 0;
            costC[end] = 0;
            for (int i = end - 1; i >= 0; i--) {
                int straightB = straightCost(i, false);
                int straightC = straightCost(i, true);
                costB[i] = Math.min(straightB, straightC + 1);
                costC[i] = Math.min(straightC, straightB + 1);
            }
        }

        /** The cost of the bytes from i on if no change stands ahead of byte i. */
        private int straightCost(int i, boolean inC) {
            if (!inC) {
                return 1 + costAt(i + 1, false);
            }
            int bytes = bytesInC(i);
            return bytes == 0 ? FAR : 1 + costAt(i + bytes, true);
        }

        private int costAt(int i, boolean inC) {
            if (i < 0 || i > string.count() || i >= costB.length) {
                return FAR;
            }
            return inC ? costC[i] : costB[i];
        }

        /** How many bytes from i on one CHARACTER of set C tells: 0, 1 or 2. */
        private int bytesInC(int i) {
            if (string.at(i) == SEPARATOR) {
                return 1;
            }
            return string.areDigits(i, 2) ? 2 : 0;
        }

        /** The CHARACTER that tells byte i (in set C with the next one). */
        private int straightCharacter(int i, boolean inC) {
            if (string.at(i) == SEPARATOR) {
                return Code.FNC1;
            }
            return inC ? string.twoDigits(i) : string.at(i) - 32;
        }

        private boolean isChangeBest(int i, boolean inC) {
            int straight = straightCost(i, inC);
            int changed = straightCost(i, !inC) + 1;
            if (straight != changed) {
                return changed < straight;
            }
            // Both ways are as short: the one whose CHARACTER is the least is due.
            return (inC ? Code.TO_B : Code.TO_C) < straightCharacter(i, inC);
        }
    }

    /** The BARS of the CHARACTERS, as numbers whose bits are the MODULES. */
    private static final class Bars {
        static final int MODULES = 11;
        static final int STOP_MODULES = 13;

        private static final int STOP_WIDTHS = 2331112;
        private static final int[] WIDTHS = {
            212222, 222122, 222221, 121223, 121322, 131222, 122213, 122312, 132212, 221213,
            221312, 231212, 112232, 122132, 122231, 113222, 123122, 123221, 223211, 221132,
            221231, 213212, 223112, 312131, 311222, 321122, 321221, 312212, 322112, 322211,
            212123, 212321, 232121, 111323, 131123, 131321, 112313, 132113, 132311, 211313,
            231113, 231311, 112133, 112331, 132131, 113123, 113321, 133121, 313121, 211331,
            231131, 213113, 213311, 213131, 311123, 311321, 331121, 312113, 312311, 332111,
            314111, 221411, 431111, 111224, 111422, 121124, 121421, 141122, 141221, 112214,
            112412, 122114, 122411, 142112, 142211, 241211, 221114, 413111, 241112, 134111,
            111242, 121142, 121241, 114212, 124112, 124211, 411212, 421112, 421211, 212141,
            214121, 412121, 111143, 111341, 131141, 114113, 114311, 411113, 411311, 113141,
            114131, 311141, 411131, 211412, 211214, 211232,
        };

        private final int[] patterns;
        private final int stopPattern;

        Bars() {
            patterns = new int[WIDTHS.length];
            for (int i = 0; i < WIDTHS.length; i++) {
                patterns[i] = pattern(WIDTHS[i], 6);
            }
            stopPattern = pattern(STOP_WIDTHS, 7);
        }

        private static int pattern(int widths, int n) {
            int unit = 1;
            for (int i = 1; i < n; i++) {
                unit *= 10;
            }
            int pattern = 0;
            for (int i = 0; i < n; i++) {
                int width = widths / unit % 10;
                for (int m = 0; m < width; m++) {
                    pattern = pattern * 2 + (i % 2 == 0 ? 1 : 0);
                }
                unit = Math.max(unit / 10, 1);
            }
            return pattern;
        }

        boolean isStop(int pattern) {
            return pattern == stopPattern;
        }

        /** The CHARACTER with these 11 MODULES; NONE if there is none. */
        int characterOf(int pattern) {
            for (int i = 0; i < patterns.length; i++) {
                if (patterns[i] == pattern) {
                    return i;
                }
            }
            return NONE;
        }

        /** The CHARACTER's MODULES come behind those of the strip. */
        void put(Row strip, int character) {
            boolean known = character >= 0 && character < patterns.length;
            int pattern = known ? patterns[character] : stopPattern;
            int modules = known ? MODULES : STOP_MODULES;
            for (int bit = modules - 1; bit >= 0; bit--) {
                strip.put((pattern >> bit) & 1);
            }
        }
    }

    /** Reads the CHARACTERS of a strip, from either side, and the STRING that they tell. */
    private static final class BarReader {
        private static final int FAULT_EMPTY = 11;
        private static final int FAULT_CHARACTER = 12;
        private static final int FAULT_BEHIND = 13;
        private static final int FAULT_CHECK = 14;
        private static final int FAULT_FNC1 = 15;
        private static final int FAULT_MEANING = 16;

        private final Bars bars;
        private final Row characters;
        private final Row places;
        private Row strip;
        private int first;
        private int modules;
        private boolean fromRight;
        private int faultSort;
        private int faultPlace;

        BarReader(Bars newBars) {
            bars = newBars;
            characters = new Row(MOST_CHARACTERS);
            places = new Row(MOST_CHARACTERS);
            strip = new Row(0);
        }

        int faultSort() {
            return faultSort;
        }

        int faultPlace() {
            return faultPlace;
        }

        int characters() {
            return characters.count();
        }

        boolean isFromRight() {
            return fromRight;
        }

        private void noteFault(int sort, int where) {
            faultSort = sort;
            faultPlace = where;
        }

        /** Finds the CHARACTERS, or one of the FAULTS 11 to 15. */
        void readBars(Row newStrip) {
            strip = newStrip;
            characters.clear();
            places.clear();
            noteFault(0, NONE);
            leaveOutEnds();
            if (modules == 0) {
                noteFault(FAULT_EMPTY, 0);
                return;
            }
            chooseSide();
            if (readCharacters()) {
                judgeFrame();
            }
        }

        private void leaveOutEnds() {
            int left = 0;
            int right = strip.count() - 1;
            while (left < strip.count() && strip.at(left) == 0) {
                left++;
            }
            while (right > left && strip.at(right) == 0) {
                right--;
            }
            first = left;
            modules = Math.max(right - left + 1, 0);
        }

        private void chooseSide() {
            fromRight = false;
            boolean startsLeft = beginsWithStart();
            fromRight = true;
            boolean startsRight = beginsWithStart();
            fromRight = !startsLeft && startsRight;
        }

        private boolean beginsWithStart() {
            return bars.characterOf(patternAt(0, Bars.MODULES)) >= Code.START_A;
        }

        /** Where MODULE i in the order of reading stands on the strip. */
        private int placeOf(int i) {
            return fromRight ? first + modules - 1 - i : first + i;
        }

        /** The MODULES from i on as the bits of a number; NONE if there are not so many. */
        private int patternAt(int i, int n) {
            if (i + n > modules) {
                return NONE;
            }
            int pattern = 0;
            for (int m = i; m < i + n; m++) {
                pattern = pattern * 2 + strip.at(placeOf(m));
            }
            return pattern;
        }

        /** All of them, up to STOP with nothing behind; false with a FAULT. */
        private boolean readCharacters() {
            int i = 0;
            for (int n = 0; n < MOST_CHARACTERS; n++) {
                boolean stop = bars.isStop(patternAt(i, Bars.STOP_MODULES));
                int character = stop ? Code.STOP : bars.characterOf(patternAt(i, Bars.MODULES));
                boolean start = character >= Code.START_A && !stop;
                if (character == NONE || start != (n == 0)) {
                    break;
                }
                characters.put(character);
                places.put(placeOf(i));
                i += stop ? Bars.STOP_MODULES : Bars.MODULES;
                if (stop) {
                    if (i < modules) {
                        noteFault(FAULT_BEHIND, placeOf(i));
                    }
                    return i >= modules;
                }
            }
            noteFault(FAULT_CHARACTER, placeOf(Math.min(i, modules - 1)));
            return false;
        }

        private void judgeFrame() {
            int check = characters.count() - 2;
            if (check < 1 || characters.at(check) != Code.checkCharacter(characters, check)) {
                noteFault(FAULT_CHECK, places.at(check));
            } else if (check == 1 || characters.at(1) != Code.FNC1) {
                noteFault(FAULT_FNC1, places.at(1));
            }
        }

        /** The STRING that the CHARACTERS between FNC1 and CHECK tell, or FAULT 16. */
        void tell(Row string) {
            string.clear();
            int set = characters.at(0);
            int end = characters.count() - 2;
            for (int i = 2; i < end; i++) {
                int character = characters.at(i);
                int own = byteIn(set, character);
                int next = i + 1 < end ? characters.at(i + 1) : NONE;
                int shifted = character == Code.SHIFT ? byteIn(otherSet(set), next) : NONE;
                int changed = changedSet(set, character);
                if (character == Code.FNC1) {
                    string.put(SEPARATOR);
                } else if (set == Code.START_C && character < 100) {
                    string.put('0' + character / 10);
                    string.put('0' + character % 10);
                } else if (own != NONE) {
                    string.put(own);
                } else if (shifted != NONE) {
                    string.put(shifted);
                    i++;
                } else if (changed != NONE) {
                    set = changed;
                } else {
                    noteFault(FAULT_MEANING, places.at(i));
                    return;
                }
            }
        }

        /** The byte that it tells in set A or B; NONE if it tells none. Sets go by their START. */
        private static int byteIn(int set, int character) {
            int bytes = set == Code.START_A ? 64 : set == Code.START_B ? 96 : 0;
            return character >= 0 && character < bytes ? character + 32 : NONE;
        }

        /** The other one of the sets A and B; of C there is none. */
        private static int otherSet(int set) {
            return set == Code.START_A ? Code.START_B : set == Code.START_B ? Code.START_A : NONE;
        }

        /** The set that it changes to; NONE if it changes to none from there. */
        private static int changedSet(int set, int character) {
            int to = NONE;
            if (character == Code.TO_A) {
                to = Code.START_A;
            } else if (character == Code.TO_B) {
                to = Code.START_B;
            } else if (character == Code.TO_C) {
                to = Code.START_C;
            }
            return to == set ? NONE : to;
        }
    }
}
