/** Promises 1 to 5, 7, 16 and 22, and what holds of all calls: bounds, refused and thrown calls. */
final class CallBoundaries {
    static final int[] FAR = {Integer.MIN_VALUE, Integer.MIN_VALUE + 1, -65536, -1,
        Integer.MAX_VALUE - 1, Integer.MAX_VALUE, 1 << 30, 1 << 16};

    private static final Class<?> INDEX = IndexOutOfBoundsException.class;
    private static final Class<?> NO_SUCH = java.util.NoSuchElementException.class;

    static void run(Checks c) {
        newObject(c);
        ownState(c);
        feedBytes(c);
        feedFull(c);
        endRefused(c);
        takeOut(c);
        clockRefused(c);
        clockLater(c);
        faultOfLatest(c);
        outNoSuch(c);
        checkRefused(c);
        thrownChangesNothing(c);
        allCallsOfOneObject(c);
    }

    private static void newObject(Checks c) {
        c.sentence("1", "An empty tape, list, strip, OUT; no symbol; the CLOCK's year is 2025");
        LabelPress x = new LabelPress();
        c.yes("tape of none", x.end(0));
        c.no("tape of one", x.end(1));
        c.same("check of an empty tape", -1, x.check());
        for (int what = 0; what < 3; what++) {
            c.same("list " + what, 0, x.list(what));
            c.same("scanned " + what, 0, x.scanned(what));
        }
        c.same("arrange", 0, x.arrange());
        c.same("OUT", -1, x.out(0));
        c.same("take", 0, x.take());
        c.same("strip", -1, x.module(0));
        c.same("turn", 0, x.turn());
        c.yes("cut", x.cut(0));
        c.no("cut of one", x.cut(1));
        c.same("ink", -1, x.ink(0, true));
        c.same("symbol", -1, x.character(0));
        c.fails("print", IllegalStateException.class, x::print);
        c.same("fault", 0, x.fault(0));
        c.same("place", -1, x.fault(1));
        c.same("write", 0, x.write(true));
        c.same("scan", -1, x.scan());
        c.same("scan's fault", 11, x.fault(0));
        c.same("read", -1, x.read(true));
        c.same("read's fault", 1, x.fault(0));
        Checks.readInBrackets(x, "(7007)751231760101");
        c.same("75 by 2025", 2075, x.date(0, 0, 0));
        c.same("76 by 2025", 1976, x.date(0, 1, 0));
        c.sentence("Terms 3", "SHELVES 0 .. 7 keep lists (none at first)");
        for (int shelf = 0; shelf < 8; shelf++) {
            LabelPress y = new LabelPress();
            c.yes("the empty list is the same", y.same(shelf));
            c.same("join", 0, y.join(shelf));
            Checks.readInBrackets(y, "(90)A");
            c.no("another one is not", y.same(shelf));
            c.same("join none", 1, y.join(shelf));
            c.same("fetch", 0, y.fetch(shelf));
            c.same("list", 0, y.list(0));
        }
    }

    private static void ownState(Checks c) {
        c.sentence("1", "A new object: it has nothing of another one");
        LabelPress x = Checks.pressWith("(90)A");
        x.symbol(0);
        x.print();
        x.write(true);
        x.shelve(0);
        x.clock(2100);
        Checks.type(x, "(91)B");
        LabelPress y = new LabelPress();
        c.no("tape", y.end(1));
        c.same("list", 0, y.list(0));
        c.same("strip", -1, y.module(0));
        c.same("OUT", -1, y.out(0));
        c.same("symbol", -1, y.character(0));
        c.yes("shelf", y.same(0));
        Checks.readInBrackets(y, "(7006)010101");
        c.same("clock", 2001, y.date(0, 0, 0));
        c.same("the other one stays", 'A', x.letter(0, 0));
    }

    private static void feedBytes(Checks c) {
        c.sentence("2", "Twenty bytes come behind those on the tape, of each number the highest first");
        LabelPress x = new LabelPress();
        c.same("twenty", 20, x.feed(0x39314142, 0x43444546, 0x4748494a, 0x4b4c4d4e, 0x4f505152));
        c.same("forty", 40, x.feed(0x61626364, 0x65666768, 0x696a6b6c, 0x6d6e6f70, 0x71727374));
        c.same("read", 1, x.read(false));
        c.same("they stand there", "91ABCDEFGHIJKLMNOPQRabcdefghijklmnopqrst", Checks.outOf(x, false));
        // A byte above 127, and those of numbers below 0, are bytes as others are.
        x.feed(0x39314142, 0x43804546, 0, 0, 0);
        x.read(false);
        c.same("a byte 128", 5, x.fault(1));
        x.feed(0x39314142, 0x434444ff, -1, -1, -1);
        x.read(false);
        c.same("a byte 255", 7, x.fault(1));
        x.feed(0xff303132, 0, 0, 0, 0);
        x.read(false);
        c.same("the first byte is 255", 2, x.fault(0));
    }

    /** A text of 600 bytes: 566 of six ELEMENTS of 90 bytes each, and a last one. */
    private static String fullText(int lastBytes) {
        StringBuilder text = new StringBuilder();
        for (int ai = 99; ai > 93; ai--) {
            text.append('(').append(ai).append(')').append("Z".repeat(90));
        }
        return text + "(93)" + "Y".repeat(lastBytes);
    }

    private static void feedFull(Checks c) {
        c.sentence("2", "NONE, doing nothing, if there would be more than 600");
        String full = fullText(32);
        c.same("a text of 600 bytes", 600, full.length());
        LabelPress x = new LabelPress();
        Checks.type(x, full);
        c.same("600 and 20", -1, x.feed(0x41414141, 0x41414141, 0x41414141, 0x41414141, 0x41414141));
        c.no("601 are not there", x.end(601));
        c.yes("600 are", x.end(600));
        c.same("600 and 20 again", -1, x.feed(0, 0, 0, 0, 0));
        c.same("they are what they were", 7, x.read(true));
        c.same("the last byte", 'Y', x.letter(6, 31));
        c.same("none behind", -1, x.letter(6, 32));
        for (int bytes : new int[] {579, 580, 581, 599}) {
            LabelPress y = new LabelPress();
            Checks.type(y, full);
            y.end(bytes);
            c.same(bytes + " and 20", bytes <= 580 ? bytes + 20 : -1, y.feed(0, 0, 0, 0, 0));
            c.no("not more", y.end(bytes <= 580 ? bytes + 21 : bytes + 1));
            c.yes("as many", y.end(bytes <= 580 ? bytes + 20 : bytes));
        }
    }

    private static void endRefused(Checks c) {
        c.sentence("3", "The tape has its first n bytes alone: true");
        LabelPress x = new LabelPress();
        Checks.type(x, "(90)ABC");
        c.yes("all of them", x.end(7));
        c.yes("one less", x.end(6));
        c.no("it is gone", x.end(7));
        c.same("read", 1, x.read(true));
        c.same("the first ones", "90AB", Checks.outOf(x, false));
        Checks.type(x, "(90)ABC");
        c.yes("none", x.end(0));
        c.no("no one", x.end(1));
        x.feed(0x39305859, 0, 0, 0, 0);
        c.yes("fed behind those that stayed", x.end(4));
        x.read(false);
        c.same("no others", "90XY", Checks.outOf(x, false));
        c.sentence("3", "false, doing nothing, if it has not so many, or n is below 0");
        State.refused(c, "one too many", 0, y -> y.end(13) ? 1 : 0);
        State.refused(c, "601", 0, y -> y.end(601) ? 1 : 0);
        for (int far : FAR) {
            State.refused(c, "end " + far, 0, y -> y.end(far) ? 1 : 0);
        }
    }

    private static void takeOut(Checks c) {
        c.sentence("4", "The tape has what OUT has (600 bytes at most): how many");
        for (int lastBytes : new int[] {31, 32, 33, 90}) {
            LabelPress x = joinedPress(lastBytes);
            int written = 564 + 4 + lastBytes;
            c.same("written", written, x.write(true));
            int due = Math.min(written, 600);
            c.same("taken", due, x.take());
            c.no("no more", x.end(due + 1));
            c.yes("so many", x.end(due));
            c.same("OUT stays", 'Y', x.out(written - 1));
            c.same("read", 7, x.read(true));
            c.same("the last element", due - 568, x.element(6, 2));
            c.same("its last byte", 'Y', x.letter(6, due - 569));
        }
        LabelPress x = Checks.pressWith("(90)A");
        Checks.type(x, "(91)B");
        c.same("an empty OUT", 0, x.take());
        c.no("empties the tape", x.end(1));
        x.write(true);
        Checks.type(x, "(91)BCDEF");
        c.same("a shorter OUT", 5, x.take());
        c.no("has no more", x.end(6));
        x.fetch(0);
        x.write(true);
        c.same("OUT of an empty list", 0, x.take());
    }

    /** A press whose list is written as the full text with so many bytes in its last ELEMENT. */
    private static LabelPress joinedPress(int lastBytes) {
        LabelPress x = Checks.pressWith("(93)" + "Y".repeat(lastBytes));
        x.shelve(0);
        Checks.readInBrackets(x, fullText(1).substring(0, 564));
        x.join(0);
        return x;
    }

    private static void clockRefused(Checks c) {
        c.sentence("5", "false, doing nothing, if it is not 1950 .. 2200");
        for (int year : new int[] {1949, 2201, 0, 25, 1900, 2300}) {
            State.refused(c, "clock " + year, 0, x -> x.clock(year) ? 1 : 0);
        }
        for (int far : FAR) {
            State.refused(c, "clock " + far, 0, x -> x.clock(far) ? 1 : 0);
        }
        for (int year : new int[] {1950, 1951, 2025, 2199, 2200}) {
            LabelPress x = new LabelPress();
            c.yes("clock " + year, x.clock(year));
            Checks.readInBrackets(x, String.format("(7006)%02d0101", year % 100));
            c.same("it is the year", year, x.date(0, 0, 0));
        }
    }

    private static void clockLater(Checks c) {
        c.sentence("5", "DATES of texts that are read later mean years by it; those of the list stay");
        LabelPress x = Checks.pressWith("(7007)000200500100");
        x.shelve(2);
        x.clock(2100);
        c.same("year", 2000, x.date(0, 0, 0));
        c.same("its last day", 29, x.date(0, 0, 2));
        c.same("second year", 2050, x.date(0, 1, 0));
        x.arrange();
        c.same("arranged", 2000, x.date(0, 0, 0));
        x.clock(1950);
        Checks.readInBrackets(x, "(7006)500101");
        c.same("read later", 1950, x.date(0, 0, 0));
        x.join(2);
        c.same("joined", 2000, x.date(1, 0, 0));
        x.fetch(2);
        c.same("fetched", 2050, x.date(0, 1, 0));
        // A text on the tape ahead of the clock's call is read later.
        Checks.type(x, "(7006)000101");
        x.clock(2150);
        x.read(true);
        c.same("read by the later one", 2200, x.date(0, 0, 0));
        Checks.draw(x, Checks.modulesOf(Checks.framed(105, 12, 1, 1, 1)));
        x.clock(2151);
        x.scan();
        c.same("scanned by the later one", 2201, x.date(0, 0, 0));
    }

    private static void faultOfLatest(Checks c) {
        c.sentence("7", "0 without, or ahead of any; NONE without; NONE for another what");
        LabelPress x = new LabelPress();
        c.same("ahead of any", 0, x.fault(0));
        c.same("place ahead of any", -1, x.fault(1));
        Checks.readInBrackets(x, "(90)A#");
        c.same("of a read", 4, x.fault(0));
        c.same("its place", 5, x.fault(1));
        for (int far : FAR) {
            c.same("another " + far, -1, x.fault(far));
        }
        c.same("2", -1, x.fault(2));
        x.feed(0, 0, 0, 0, 0);
        x.check();
        x.write(true);
        x.take();
        x.fetch(0);
        x.join(0);
        c.same("other calls leave it", 4, x.fault(0));
        c.same("and its place", 5, x.fault(1));
        x.scan();
        c.same("of a scan", 11, x.fault(0));
        c.same("its place", 0, x.fault(1));
        Checks.draw(x, Checks.modulesOf(Checks.framed(105, 20, 12)));
        x.scan();
        c.same("of a scan without", 0, x.fault(0));
        c.same("place of a scan without", -1, x.fault(1));
        x.read(true);
        c.same("of an empty tape", 1, x.fault(0));
        Checks.readInBrackets(x, "(90)A");
        c.same("of a read without", 0, x.fault(0));
        c.same("place of a read without", -1, x.fault(1));
    }

    private static void outNoSuch(Checks c) {
        c.sentence("16", "Byte i of OUT; NONE if there is none such");
        LabelPress x = new LabelPress();
        c.same("of an empty one", -1, x.out(0));
        Checks.readInBrackets(x, "(90)A\\((240)z");
        c.same("until it is written", -1, x.out(0));
        x.write(true);
        c.same("first", '(', x.out(0));
        c.same("last", 'z', x.out(12));
        c.same("behind", -1, x.out(13));
        for (int far : FAR) {
            c.same("out " + far, -1, x.out(far));
        }
        c.same("a string", 9, x.write(false));
        c.same("a byte 29", 29, x.out(4));
        c.same("last of a string", 'z', x.out(8));
        c.same("none of those that were there", -1, x.out(9));
        x.fetch(0);
        c.same("it stays with another list", 'z', x.out(8));
        x.write(true);
        c.same("of an empty list", -1, x.out(0));
    }

    private static void checkRefused(Checks c) {
        c.sentence("22", "NONE if there are none, more than 30, or another byte");
        c.same("none", -1, new LabelPress().check());
        for (int n : new int[] {1, 2, 29, 30, 31, 32, 60, 600}) {
            LabelPress x = new LabelPress();
            Checks.type(x, "1".repeat(n));
            int due = Checks.keyOf("1".repeat(n)).charAt(n) - '0';
            c.same(n + " digits", n <= 30 ? due : -1, x.check());
            c.no("empty then", x.end(1));
        }
        for (int b = 0; b < 256; b++) {
            LabelPress x = new LabelPress();
            boolean digit = b >= '0' && b <= '9';
            int at = b % 3;
            Checks.type(x, "111".substring(0, at) + (char) b + "111".substring(at + 1));
            c.same("with a byte " + b, digit ? 1 : 0, x.check() != LabelPress.NONE ? 1 : 0);
            c.no("empty then", x.end(1));
        }
        LabelPress x = Checks.pressWith("(90)A");
        Checks.readInBrackets(x, "(90)#");
        Checks.type(x, "1");
        x.check();
        c.same("the list stays", "(90)A", Checks.outOf(x, true));
        c.same("the fault stays", 4, x.fault(0));
    }

    private static void thrownChangesNothing(Checks c) {
        c.sentence("Terms 4", "A call that throws changes nothing but what is told");
        for (int k : new int[] {-1, 2, 20, Integer.MIN_VALUE, Integer.MAX_VALUE}) {
            State.thrown(c, "element " + k, INDEX, x -> x.element(k, 0));
            State.thrown(c, "letter " + k, INDEX, x -> x.letter(k, 0));
            State.thrown(c, "part " + k, INDEX, x -> x.part(k, 0, 0));
            State.thrown(c, "number " + k, INDEX, x -> x.number(k, 0));
            State.thrown(c, "date " + k, INDEX, x -> x.date(k, 0, 0));
            State.thrown(c, "symbol " + k, INDEX, x -> x.symbol(k));
        }
        for (int shelf : new int[] {-1, 8, Integer.MIN_VALUE, Integer.MAX_VALUE}) {
            State.thrown(c, "shelve " + shelf, INDEX, x -> x.shelve(shelf));
            State.thrown(c, "fetch " + shelf, INDEX, x -> x.fetch(shelf));
            State.thrown(c, "same " + shelf, INDEX, x -> x.same(shelf) ? 1 : 0);
            State.thrown(c, "join " + shelf, INDEX, x -> x.join(shelf));
        }
        for (int j : new int[] {-1, 1, 4, Integer.MIN_VALUE, Integer.MAX_VALUE}) {
            State.thrown(c, "number of part " + j, NO_SUCH, x -> x.number(0, j));
            State.thrown(c, "date of part " + j, NO_SUCH, x -> x.date(1, j, 0));
        }
        State.thrown(c, "date of a number", NO_SUCH, x -> x.date(0, 0, 0));
        LabelPress y = new LabelPress();
        Checks.draw(y, "1101");
        c.fails("print without a symbol", IllegalStateException.class, y::print);
        c.same("the strip stays", "1101", Checks.stripOf(y));
        c.same("no symbol still", -1, y.character(0));
    }

    private static void allCallsOfOneObject(Checks c) {
        c.sentence("What it is", "An object is used for at most 512 calls after it has been made");
        LabelPress x = new LabelPress();
        int calls = 0;
        while (calls + 16 <= 511) {
            x.end(0);
            x.feed(0x28393029, 0x41424344, 0x45464748, 0x494a4b4c, 0x4d4e4f50);
            x.read(true);
            x.shelve(calls % 8);
            x.arrange();
            x.write(true);
            x.take();
            x.check();
            x.symbol(0);
            x.print();
            x.turn();
            x.scan();
            x.join((calls + 1) % 8);
            x.same(0);
            x.bars(-1, -1, -1, -1, -1);
            x.cut(0);
            calls += 16;
        }
        while (calls < 507) {
            x.list(2);
            calls++;
        }
        c.same("508th", 20, x.write(true));
        c.same("509th", 1, x.symbol(0));
        c.same("510th", 20 + 21 * 11 + 13, x.print());
        c.same("511th", 20 + 21 * 11 + 13, x.turn());
        c.same("512th", 1, x.scan());
    }
}
