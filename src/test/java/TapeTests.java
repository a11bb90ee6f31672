/** Promises 1 to 5, 7, 16 and 22: a new object, the tape, the clock, FAULTS, OUT, the CHECK. */
final class TapeTests {
    static void run(Checks c) {
        newObject(c);
        feed(c);
        end(c);
        take(c);
        clock(c);
        fault(c);
        out(c);
        check(c);
    }

    private static void newObject(Checks c) {
        LabelPress x = new LabelPress();
        c.same("1 NONE", -1, LabelPress.NONE);
        c.no("1 tape is empty", x.end(1));
        c.same("1 list", 0, x.list(0));
        c.same("1 OUT", -1, x.out(0));
        c.same("1 strip", -1, x.module(0));
        c.same("1 no symbol", -1, x.character(0));
        c.fails("1 print", IllegalStateException.class, x::print);
        for (int shelf = 0; shelf < 8; shelf++) {
            c.yes("1 shelf " + shelf, x.same(shelf));
        }
        c.same("1 fault", 0, x.fault(0));
        c.same("1 scanned", 0, x.scanned(0) + x.scanned(1) + x.scanned(2));
        Checks.readInBrackets(x, "(7006)750101(12)760101");
        c.same("1 the clock's year is 2025: 75", 2075, x.date(0, 0, 0));
        c.same("1 the clock's year is 2025: 76", 1976, x.date(1, 0, 0));
    }

    private static void feed(Checks c) {
        LabelPress x = new LabelPress();
        c.same("2 twenty", 20, x.feed(0x31303031, 0x32333435, 0x36373839, 0x41424344, 0x45460000));
        c.yes("2 they stand there", x.end(18));
        c.same("2 highest first", 8, faultOf(x, false));
        for (int n = 20; n <= 600; n += 20) {
            c.same("2 feed to " + n, n, x.feed(0, 0, 0, 0, 0));
        }
        c.same("2 more than 600", -1, x.feed(1, 1, 1, 1, 1));
        c.yes("2 it did nothing", x.end(600));
        c.yes("2 end", x.end(581));
        c.same("2 581 and 20", -1, x.feed(1, 1, 1, 1, 1));
        c.yes("2 end", x.end(580));
        c.same("2 580 and 20", 600, x.feed(1, 1, 1, 1, 1));
        x = new LabelPress();
        x.feed(-1, -1, -1, -1, -1);
        c.same("2 bytes of a negative number", 2, faultOf(x, false));
    }

    private static int faultOf(LabelPress x, boolean inBrackets) {
        x.read(inBrackets);
        return x.fault(0);
    }

    private static void end(Checks c) {
        LabelPress x = new LabelPress();
        c.yes("3 none of none", x.end(0));
        c.no("3 one of none", x.end(1));
        x.feed(0x28393029, 0x41424344, 0, 0, 0);
        c.no("3 too many", x.end(21));
        c.no("3 below 0", x.end(-1));
        c.no("3 far below 0", x.end(Integer.MIN_VALUE));
        c.yes("3 all", x.end(20));
        c.yes("3 some", x.end(6));
        c.no("3 those behind are gone", x.end(7));
        c.same("3 read", 1, x.read(true));
        c.same("3 the first ones stay", "(90)AB", Checks.outOf(x, true));
    }

    private static void take(Checks c) {
        LabelPress x = Checks.pressWith("(90)AB");
        c.same("4 OUT is empty", 0, x.take());
        x.write(true);
        c.same("4 take", 6, x.take());
        c.same("4 OUT stays", '(', x.out(0));
        c.same("4 read what was taken", 1, x.read(true));
        Checks.type(x, "(91)longer than OUT");
        c.same("4 what the tape had is gone", 6, x.take());
        c.no("4 no more", x.end(7));
        // Nine VALUES of 90 bytes: OUT has more than the tape may have.
        x = new LabelPress();
        for (int ai = 91; ai <= 99; ai++) {
            Checks.readInBrackets(x, "(" + ai + ")" + "Z".repeat(90));
            x.shelve(1);
            x.fetch(0);
            x.join(1);
            x.shelve(0);
        }
        c.same("4 OUT", 9 * 94, x.write(true));
        c.same("4 600 at most", 600, x.take());
        x.end(94);
        c.same("4 the first ones", 1, x.read(true));
    }

    private static void clock(Checks c) {
        LabelPress x = new LabelPress();
        c.no("5 1949", x.clock(1949));
        c.no("5 2201", x.clock(2201));
        c.no("5 0", x.clock(Integer.MIN_VALUE));
        Checks.readInBrackets(x, "(7006)760229");
        c.same("5 it stays", 1976, x.date(0, 0, 0));
        c.yes("5 1950", x.clock(1950));
        c.same("5 those of the list stay", 1976, x.date(0, 0, 0));
        Checks.readInBrackets(x, "(7006)010101(12)000101");
        c.same("5 less 49", 1901, x.date(0, 0, 0));
        c.same("5 and 50", 2000, x.date(1, 0, 0));
        c.yes("5 2200", x.clock(2200));
        Checks.readInBrackets(x, "(7006)510101(12)500101");
        c.same("5 less 49", 2151, x.date(0, 0, 0));
        c.same("5 and 50", 2250, x.date(1, 0, 0));
        c.faulty(6, 6, x, "(7006)000229", true);
        x.clock(2025);
        c.faulty(0, -1, x, "(7006)000229", true);
    }

    private static void fault(Checks c) {
        LabelPress x = new LabelPress();
        c.same("7 ahead of any", 0, x.fault(0));
        c.same("7 ahead of any", -1, x.fault(1));
        Checks.readInBrackets(x, "(90)#");
        c.same("7 fault", 4, x.fault(0));
        c.same("7 place", 4, x.fault(1));
        c.same("7 another", -1, x.fault(2));
        c.same("7 another", -1, x.fault(-1));
        x.clock(2000);
        c.same("7 it stays with other calls", 4, x.fault(0));
        x.scan();
        c.same("7 of a scan", 11, x.fault(0));
        c.same("7 of a scan", 0, x.fault(1));
        Checks.readInBrackets(x, "(90)A");
        c.same("7 without", 0, x.fault(0));
        c.same("7 without", -1, x.fault(1));
    }

    private static void out(Checks c) {
        LabelPress x = Checks.pressWith("(90)AB");
        c.same("16 it is not written yet", -1, x.out(0));
        x.write(false);
        c.same("16 first", '9', x.out(0));
        c.same("16 last", 'B', x.out(3));
        c.same("16 behind", -1, x.out(4));
        c.same("16 ahead", -1, x.out(-1));
        c.same("16 far", -1, x.out(Integer.MAX_VALUE));
    }

    private static void check(Checks c) {
        c.same("22 of a key", 6, checkOf(new LabelPress(), "0401234512345"));
        c.same("22 one digit", 7, checkOf(new LabelPress(), "1"));
        c.same("22 two digits", 3, checkOf(new LabelPress(), "12"));
        c.same("22 nothing lacks", 0, checkOf(new LabelPress(), "00"));
        c.same("22 18 digits", 7, checkOf(new LabelPress(), "10614141192837465"));
        c.same("22 30 digits", 4, checkOf(new LabelPress(), "0".repeat(29) + "2"));
        c.same("22 31 digits", -1, checkOf(new LabelPress(), "0".repeat(31)));
        c.same("22 none", -1, checkOf(new LabelPress(), ""));
        c.same("22 another byte", -1, checkOf(new LabelPress(), "12A"));
        c.same("22 a byte below the digits", -1, checkOf(new LabelPress(), "1/2"));
        c.same("22 a byte above the digits", -1, checkOf(new LabelPress(), ":"));
        LabelPress x = new LabelPress();
        checkOf(x, "12");
        c.no("22 the tape is empty then", x.end(1));
        checkOf(x, "12A");
        c.no("22 the tape is empty then, too", x.end(1));
    }

    private static int checkOf(LabelPress x, String digits) {
        Checks.type(x, digits);
        return x.check();
    }
}
