/** Promises 26 to 32: the strip, and what is scanned from it. */
final class ScanTests {
    static void run(Checks c) {
        bars(c);
        cut(c);
        turn(c);
        ink(c);
        sides(c);
        frameFaults(c);
        behindStop(c);
        manyCharacters(c);
        sets(c);
        meanings(c);
        stringFaults(c);
        scanned(c);
    }

    private static void bars(Checks c) {
        LabelPress x = new LabelPress();
        c.same("26 160", 160, x.bars(-2147483648, 1, -1, 0, 0x55555555));
        c.same("26 highest first", "1" + "0".repeat(31) + "0".repeat(31) + "1" + "1".repeat(32)
            + "0".repeat(32) + "01".repeat(16), Checks.stripOf(x));
        for (int n = 320; n <= 1920; n += 160) {
            c.same("26 " + n, n, x.bars(0, 0, 0, 0, 0));
        }
        c.same("26 more than 2000", -1, x.bars(-1, -1, -1, -1, -1));
        c.same("26 nothing done", -1, x.module(1920));
        x.cut(1841);
        c.same("26 2001", -1, x.bars(-1, -1, -1, -1, -1));
        x.cut(1840);
        c.same("26 2000", 2000, x.bars(-1, -1, -1, -1, -1));
        c.same("30 the last one", 1, x.module(1999));
        c.same("30 behind", -1, x.module(2000));
    }

    private static void cut(Checks c) {
        LabelPress x = new LabelPress();
        c.yes("27 none of none", x.cut(0));
        c.no("27 one of none", x.cut(1));
        x.bars(-1, -1, -1, -1, -1);
        c.no("27 too many", x.cut(161));
        c.no("27 below 0", x.cut(-1));
        c.same("27 nothing done", 1, x.module(159));
        c.yes("27 all", x.cut(160));
        c.yes("27 some", x.cut(3));
        c.same("27 the first ones", "111", Checks.stripOf(x));
        c.no("27 the others are gone", x.cut(4));
    }

    private static void turn(Checks c) {
        LabelPress x = new LabelPress();
        c.same("28 none", 0, x.turn());
        Checks.draw(x, "1101000");
        c.same("28 seven", 7, x.turn());
        c.same("28 turned", "0001011", Checks.stripOf(x));
        Checks.draw(x, "10");
        x.turn();
        c.same("28 two", "01", Checks.stripOf(x));
    }

    private static void ink(Checks c) {
        LabelPress x = new LabelPress();
        c.same("29 none", -1, x.ink(0, true));
        Checks.draw(x, "1001");
        c.same("29 was a space", 0, x.ink(1, true));
        c.same("29 was a bar", 1, x.ink(3, false));
        c.same("29 was a bar", 1, x.ink(0, true));
        c.same("29 was a space", 0, x.ink(2, false));
        c.same("29 inked", "1100", Checks.stripOf(x));
        c.same("29 behind", -1, x.ink(4, true));
        c.same("29 ahead", -1, x.ink(-1, true));
        c.same("29 nothing done", "1100", Checks.stripOf(x));
        c.same("30 module", 1, x.module(1));
        c.same("30 module", 0, x.module(2));
        c.same("30 ahead", -1, x.module(-1));
        c.same("30 behind", -1, x.module(4));
    }

    private static void faulty(Checks c, int fault, int place, String modules) {
        LabelPress x = Checks.pressWith("(90)stays");
        Checks.draw(x, modules);
        int answer = x.scan();
        c.same("31 fault of " + Checks.brief(modules), fault, x.fault(0));
        c.same("31 place of " + Checks.brief(modules), place, x.fault(1));
        c.same("31 answer of " + Checks.brief(modules), fault == 0 ? x.list(0) : -1, answer);
        if (fault != 0) {
            c.same("31 the list stays", "(90)stays", Checks.outOf(x, true));
        }
        if (modules.length() < 400) {
            // A longer one takes more calls than an object is used for.
            c.same("31 the strip stays", modules, Checks.stripOf(x));
        }
    }

    private static void sides(Checks c) {
        String good = Checks.modulesOf(Checks.framed(105, 20, 12));
        faulty(c, 0, -1, good);
        faulty(c, 0, -1, "0".repeat(30) + good);
        faulty(c, 0, -1, good + "000");
        faulty(c, 0, -1, Checks.reversed(good));
        faulty(c, 0, -1, "0" + Checks.reversed(good) + "00000");
        LabelPress x = new LabelPress();
        Checks.draw(x, "00" + good + "0");
        c.same("31 from the left", 1, x.scan());
        c.same("31 list", "(20)12", Checks.outOf(x, true));
        c.same("32 from the left", 0, x.scanned(2));
        x.turn();
        c.same("31 from the right", 1, x.scan());
        c.same("32 from the right", 1, x.scanned(2));
        // START at both ends: it is read from the left.
        String start = Checks.modulesOf(104);
        faulty(c, 12, 2 + 11, "00" + start + "0" + Checks.reversed(start));
        // None at either end: from the left.
        faulty(c, 12, 3, "000" + Checks.modulesOf(20) + Checks.modulesOf(106));
        x = new LabelPress();
        Checks.draw(x, Checks.modulesOf(Checks.framed(103, 18, 16, 17, 18)));
        c.same("31 set A", 1, x.scan());
        c.same("31 its list", "(20)12", Checks.outOf(x, true));
        for (int set = 103; set <= 105; set++) {
            x = new LabelPress();
            int[] all = set == 105 ? Checks.framed(set, 20, 12) : Checks.framed(set, 18, 16, 17, 18);
            Checks.draw(x, "000" + Checks.reversed(Checks.modulesOf(all)));
            c.same("31 from the right with " + set, 1, x.scan());
            c.same("32 from the right with " + set, 1, x.scanned(2));
        }
    }

    private static void frameFaults(Checks c) {
        faulty(c, 11, 0, "");
        faulty(c, 11, 0, "0");
        faulty(c, 11, 0, "0".repeat(160));
        faulty(c, 12, 0, "1");
        faulty(c, 12, 5, "000001");
        faulty(c, 12, 2, "00" + Checks.modulesOf(106));
        faulty(c, 12, 2, "00" + "11010011111");
        String start = Checks.modulesOf(105);
        String fnc1 = Checks.modulesOf(102);
        faulty(c, 12, 0, start);
        faulty(c, 12, 11, start + fnc1);
        faulty(c, 12, 22, start + fnc1 + "1");
        faulty(c, 12, 11, start + start + Checks.modulesOf(106));
        faulty(c, 12, 24, "00" + start + fnc1 + Checks.modulesOf(104, 1, 106));
        faulty(c, 12, 22, start + fnc1 + "11111111111" + Checks.modulesOf(1, 106));
        faulty(c, 12, 33, Checks.modulesOf(105, 102, 20) + Checks.modulesOf(106).substring(0, 12));
        faulty(c, 14, 0, Checks.modulesOf(105, 106));
        faulty(c, 14, 4, "0000" + Checks.modulesOf(104, 106));
        faulty(c, 14, 44, Checks.modulesOf(105, 102, 20, 12, 79, 106));
        faulty(c, 14, 11, Checks.modulesOf(105, 102, 106));
        faulty(c, 15, 11, Checks.modulesOf(105, 2, 106));
        faulty(c, 15, 11, Checks.modulesOf(Checks.closed(105, 20, 12)));
        faulty(c, 14, 33, Checks.modulesOf(105, 20, 12, 0, 106));
        // The one that is read first of the CHARACTER, as numbered from the left.
        String bad = Checks.modulesOf(105, 102, 20, 12, 79, 106);
        faulty(c, 14, 3 + bad.length() - 1 - 44, "000" + Checks.reversed(bad) + "00");
        String cut = Checks.modulesOf(105, 102, 20) + "1";
        faulty(c, 12, 3, "000" + Checks.reversed(cut) + "00");
        faulty(c, 15, bad.length() - 22 - 1 - 11, Checks.reversed(Checks.modulesOf(
            Checks.closed(105, 20))));
    }

    private static void behindStop(Checks c) {
        String good = Checks.modulesOf(Checks.framed(105, 20, 12));
        int n = good.length();
        faulty(c, 13, n, good + "1");
        faulty(c, 13, n, good + "0001");
        faulty(c, 13, n, good + Checks.modulesOf(106));
        faulty(c, 13, 2 + n, "00" + good + "01000");
        faulty(c, 13, 1, "10" + Checks.reversed(good));
        faulty(c, 13, 3 + 1, "000" + "10" + Checks.reversed(good) + "00");
        // It is told ahead of the FAULTS of what stands ahead of STOP.
        faulty(c, 13, n, Checks.modulesOf(105, 102, 20, 12, 79, 106) + "1");
    }

    private static void manyCharacters(Checks c) {
        int[] data = new int[96];
        java.util.Arrays.fill(data, 33);
        data[0] = 25;
        data[1] = 25;
        String hundred = Checks.modulesOf(Checks.framed(104, data));
        LabelPress x = new LabelPress();
        Checks.draw(x, hundred);
        x.scan();
        c.same("31 100 characters", 3, x.fault(0));
        c.same("31 at the 91st byte too many", 92, x.fault(1));
        c.same("32 100 characters", 100, x.scanned(0));
        data = java.util.Arrays.copyOf(data, 97);
        data[96] = 33;
        String more = Checks.modulesOf(Checks.framed(104, data));
        faulty(c, 12, 1100, more);
        faulty(c, 12, more.length() - 1 - 1100, Checks.reversed(more));
        data = java.util.Arrays.copyOf(data, 150);
        faulty(c, 12, 1100 + 3, "000" + Checks.modulesOf(Checks.framed(104, data)));
    }

    /** What the CHARACTERS between FNC1 and CHECK tell, the list written IN BRACKETS. */
    private static void tells(Checks c, String list, int start, int... data) {
        LabelPress x = new LabelPress();
        Checks.draw(x, Checks.modulesOf(Checks.framed(start, data)));
        x.scan();
        c.same("31 fault of " + list, 0, x.fault(0));
        c.same("31 list", list, Checks.outOf(x, true));
    }

    private static void sets(Checks c) {
        tells(c, "(90)A", 103, 25, 16, 33);
        tells(c, "(90)A", 104, 25, 16, 33);
        tells(c, "(90)12", 105, 90, 12);
        tells(c, "(90)a", 104, 25, 16, 65);
        tells(c, "(90)_", 103, 25, 16, 63);
        tells(c, "(90)_", 104, 25, 16, 98, 63);
        tells(c, "(90)A(91)B", 104, 25, 16, 33, 102, 25, 17, 34);
        tells(c, "(90)A(91)B", 103, 25, 16, 33, 102, 25, 17, 34);
        tells(c, "(90)12(91)34", 105, 90, 12, 102, 91, 34);
        tells(c, "(90)12", 103, 99, 90, 12);
        tells(c, "(90)12", 104, 99, 90, 12);
        tells(c, "(90)a", 105, 90, 100, 65);
        tells(c, "(90)A", 105, 90, 101, 33);
        tells(c, "(90)ba", 103, 25, 16, 100, 66, 65);
        tells(c, "(90)BA", 104, 25, 16, 101, 34, 33);
        tells(c, "(90)bA", 103, 25, 16, 98, 66, 33);
        tells(c, "(90)Ab", 104, 25, 16, 98, 33, 66);
        tells(c, "(90)Ab12", 104, 25, 16, 98, 33, 66, 99, 12);
        tells(c, "(90)0099", 105, 90, 0, 99);
        tells(c, "(20)12(90)A", 105, 20, 12, 102, 90, 101, 33);
        tells(c, "(10)A", 104, 17, 16, 33);
        tells(c, "(90)A", 104, 25, 16, 33, 99, 100);
        tells(c, "(90)A", 104, 25, 16, 33, 99, 101, 100);
    }

    /** FAULT 16 at that CHARACTER of those between FNC1 and CHECK. */
    private static void meaningless(Checks c, int i, int start, int... data) {
        faulty(c, 16, 22 + 11 * i, Checks.modulesOf(Checks.framed(start, data)));
    }

    private static void meanings(Checks c) {
        meaningless(c, 1, 104, 25, 96);
        meaningless(c, 1, 104, 25, 97);
        meaningless(c, 1, 104, 25, 100, 16);
        meaningless(c, 1, 103, 25, 101, 16);
        meaningless(c, 1, 103, 25, 64);
        meaningless(c, 1, 103, 25, 95);
        meaningless(c, 1, 103, 25, 96);
        meaningless(c, 1, 103, 25, 97);
        meaningless(c, 2, 104, 25, 101, 65);
        meaningless(c, 2, 103, 25, 16, 98);
        meaningless(c, 2, 103, 25, 16, 98, 96, 33);
        meaningless(c, 2, 104, 25, 16, 98, 64, 33);
        meaningless(c, 2, 104, 25, 16, 98, 98, 33);
        meaningless(c, 2, 104, 25, 16, 98, 99, 33);
        meaningless(c, 2, 104, 25, 16, 98, 102, 33);
        meaningless(c, 0, 104, 96, 97);
        String bad = Checks.modulesOf(Checks.framed(104, 25, 16, 97));
        faulty(c, 16, 2 + bad.length() - 1 - 44, "00" + Checks.reversed(bad));
        LabelPress x = new LabelPress();
        Checks.draw(x, Checks.modulesOf(Checks.framed(103, 25, 16, 98, 95)));
        x.scan();
        c.same("31 a byte 127 is none of the signs", 4, x.fault(0));
        c.same("31 at it", 2, x.fault(1));
    }

    private static void stringFaults(Checks c) {
        faulty(c, 1, 0, Checks.modulesOf(Checks.framed(104)));
        faulty(c, 1, 0, Checks.modulesOf(Checks.framed(104, 99)));
        faulty(c, 1, 4, Checks.modulesOf(Checks.framed(104, 25, 16, 33, 102)));
        faulty(c, 2, 0, Checks.modulesOf(Checks.framed(104, 102, 25, 16, 33)));
        faulty(c, 2, 0, Checks.modulesOf(Checks.framed(105, 80, 99)));
        faulty(c, 3, 2, Checks.modulesOf(Checks.framed(105, 90)));
        faulty(c, 4, 2, Checks.modulesOf(Checks.framed(104, 25, 16, 0)));
        faulty(c, 4, 2, Checks.modulesOf(Checks.framed(104, 25, 16, 3)));
        faulty(c, 5, 15, Checks.modulesOf(Checks.framed(105, 1, 4, 1, 23, 45, 12, 34, 57)));
        faulty(c, 6, 2, Checks.modulesOf(Checks.framed(105, 12, 25, 13, 1)));
        faulty(c, 7, 6, Checks.modulesOf(Checks.framed(104, 25, 16, 33, 33, 33, 102, 25, 16, 33)));
        faulty(c, 0, -1, Checks.modulesOf(Checks.framed(105, 2, 4, 1, 23, 45, 12, 34, 56)));
        LabelPress x = new LabelPress();
        x.clock(2100);
        Checks.draw(x, Checks.modulesOf(Checks.framed(105, 12, 0, 2, 0)));
        c.same("31 a date", 1, x.scan());
        c.same("31 by the clock", 2100, x.date(0, 0, 0));
        c.same("31 by the clock", 28, x.date(0, 0, 2));
        Checks.type(x, "(90)A");
        x.scan();
        c.same("31 the tape stays", 1, x.read(true));
    }

    private static void scannedIs(Checks c, LabelPress x, int characters, int bytes, int right) {
        c.same("32 characters", characters, x.scanned(0));
        c.same("32 bytes", bytes, x.scanned(1));
        c.same("32 right", right, x.scanned(2));
        c.same("32 others", -1, x.scanned(3));
        c.same("32 others", -1, x.scanned(-1));
    }

    private static void scanned(Checks c) {
        LabelPress x = new LabelPress();
        scannedIs(c, x, 0, 0, 0);
        Checks.draw(x, "1");
        x.scan();
        scannedIs(c, x, 0, 0, 0);
        Checks.draw(x, Checks.reversed(Checks.modulesOf(Checks.framed(105, 90, 12, 102, 91, 34))));
        x.scan();
        scannedIs(c, x, 9, 9, 1);
        Checks.draw(x, Checks.modulesOf(105, 102, 20, 12, 79, 106));
        x.scan();
        scannedIs(c, x, 9, 9, 1);
        Checks.draw(x, Checks.modulesOf(Checks.framed(104, 25, 16, 97)));
        x.scan();
        scannedIs(c, x, 7, 0, 0);
        Checks.draw(x, Checks.modulesOf(Checks.framed(105, 90)));
        x.scan();
        scannedIs(c, x, 5, 2, 0);
        Checks.readInBrackets(x, "(90)A");
        scannedIs(c, x, 5, 2, 0);
        x.cut(0);
        x.scan();
        scannedIs(c, x, 5, 2, 0);
    }
}
