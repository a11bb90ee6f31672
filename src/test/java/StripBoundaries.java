import java.util.Arrays;

/** Terms, 4, and promises 26 to 32: bounds of the strip, and FAULTS of what is scanned from it. */
final class StripBoundaries {
    private static final String GOOD = Checks.modulesOf(Checks.framed(105, 20, 12));
    private static final String EARLIER = "00000"
        + Checks.modulesOf(Checks.framed(104, 25, 16, 33, 34, 35, 96)) + "000";

    static void run(Checks c) {
        barsBits(c);
        barsFull(c);
        cutRefused(c);
        turning(c);
        inkRefused(c);
        noSuchModule(c);
        spacesLeftOut(c);
        fromWhichSide(c);
        numberedFromTheLeft(c);
        noBar(c);
        noCharacter(c);
        startElsewhere(c);
        stopFirst(c);
        fewerThanEleven(c);
        hundredAndFirst(c);
        behindStop(c);
        notTheCheck(c);
        notTheFunction(c);
        inTheirOrder(c);
        listStays(c);
        scannedOfLatest(c);
    }

    private static void barsBits(Checks c) {
        c.sentence("26", "160 MODULES come behind those of the strip, of each number the highest bit first");
        LabelPress x = new LabelPress();
        c.same("160", 160, x.bars(1 << 31, 1, 0, -1, Integer.MAX_VALUE));
        c.same("they stand there", "1" + "0".repeat(62) + "1" + "0".repeat(32) + "1".repeat(32) + "0"
            + "1".repeat(31), Checks.stripOf(x));
        x.cut(1);
        c.same("161", 161, x.bars(0, 0, 0, 0, 1));
        c.same("behind those of the strip", "1" + "0".repeat(159) + "1", Checks.stripOf(x));
    }

    private static void barsFull(Checks c) {
        c.sentence("26", "NONE, doing nothing, if there would be more than 2000");
        for (int modules : new int[] {1839, 1840, 1841, 1920, 1999, 2000}) {
            LabelPress x = stripOf(modules);
            boolean goes = modules <= 1840;
            c.same(modules + " and 160", goes ? modules + 160 : -1, x.bars(-1, -1, -1, -1, -1));
            c.same("the first one behind", goes ? 1 : -1, x.module(modules));
            c.same("the last one ahead", 0, x.module(modules - 1));
            c.no("not more", x.cut(goes ? modules + 161 : modules + 1));
            c.yes("as many", x.cut(goes ? modules + 160 : modules));
            c.same("again", modules + 160 > 1840 ? -1 : 0, x.bars(0, 0, 0, 0, 0));
        }
    }

    /** A strip of so many spaces. */
    private static LabelPress stripOf(int modules) {
        LabelPress x = new LabelPress();
        Checks.draw(x, "0".repeat(modules));
        return x;
    }

    private static void cutRefused(Checks c) {
        c.sentence("27", "false, doing nothing, if it has not so many, or n is below 0");
        State.refused(c, "one too many", 0, x -> x.cut(26) ? 1 : 0);
        State.refused(c, "2001", 0, x -> x.cut(2001) ? 1 : 0);
        for (int far : CallBoundaries.FAR) {
            State.refused(c, "cut " + far, 0, x -> x.cut(far) ? 1 : 0);
        }
        c.sentence("27", "The strip has its first n MODULES alone: true");
        LabelPress x = new LabelPress();
        c.yes("none of none", x.cut(0));
        Checks.draw(x, "110100111");
        c.yes("all", x.cut(9));
        c.same("they stay", "110100111", Checks.stripOf(x));
        c.yes("one less", x.cut(8));
        c.same("the first ones", "11010011", Checks.stripOf(x));
        c.yes("none", x.cut(0));
        c.same("none is left", "", Checks.stripOf(x));
        x = stripOf(2000);
        c.yes("2000", x.cut(2000));
        c.no("2001", x.cut(2001));
    }

    private static void turning(Checks c) {
        c.sentence("28", "The strip is turned round: how many MODULES it has");
        LabelPress x = new LabelPress();
        c.same("none", 0, x.turn());
        for (String modules : "1 0 10 01 11 110 100 1000 1101 11010 110100 1101001110".split(" ")) {
            Checks.draw(x, modules);
            c.same("turn " + modules, modules.length(), x.turn());
            c.same("turned", Checks.reversed(modules), Checks.stripOf(x));
        }
        LabelPress y = stripOf(2000);
        y.ink(0, true);
        y.ink(3, true);
        c.same("2000", 2000, y.turn());
        c.same("the first one is the last", 1, y.module(1999));
        c.same("the last one is the first", 0, y.module(0));
        c.same("the fourth one", 1, y.module(1996));
        c.same("where it was", 0, y.module(3));
    }

    private static void inkRefused(Checks c) {
        c.sentence("29", "which it was (1, 0); NONE if there is none such");
        for (int far : CallBoundaries.FAR) {
            State.refused(c, "ink " + far, -1, x -> x.ink(far, true));
            State.refused(c, "space " + far, -1, x -> x.ink(far, false));
        }
        State.refused(c, "ink behind", -1, x -> x.ink(25, true));
        LabelPress x = new LabelPress();
        c.same("of an empty strip", -1, x.ink(0, true));
        c.same("it stays empty", -1, x.module(0));
        Checks.draw(x, "0011");
        c.same("a space becomes a bar", 0, x.ink(0, true));
        c.same("a space stays", 0, x.ink(1, false));
        c.same("a bar stays", 1, x.ink(2, true));
        c.same("a bar becomes a space", 1, x.ink(3, false));
        c.same("inked", "1010", Checks.stripOf(x));
        LabelPress y = stripOf(2000);
        c.same("the last one", 0, y.ink(1999, true));
        c.same("is a bar", 1, y.module(1999));
        c.same("2000", -1, y.ink(2000, true));
    }

    private static void noSuchModule(Checks c) {
        c.sentence("30", "MODULE i of the strip; NONE if there is none such");
        LabelPress x = new LabelPress();
        c.same("of an empty strip", -1, x.module(0));
        Checks.draw(x, "10");
        c.same("a bar", 1, x.module(0));
        c.same("a space", 0, x.module(1));
        c.same("behind", -1, x.module(2));
        for (int far : CallBoundaries.FAR) {
            c.same("module " + far, -1, x.module(far));
        }
        c.same("none behind 2000", -1, stripOf(2000).module(2000));
        c.same("the last of 2000", 0, stripOf(2000).module(1999));
    }

    /** What the strip is scanned as: the FAULT and its place. */
    private static void scans(Checks c, int fault, int place, String modules) {
        LabelPress x = new LabelPress();
        // An earlier scan, with other places and CHARACTERS, leaves nothing behind.
        Checks.draw(x, EARLIER);
        x.scan();
        Checks.draw(x, modules);
        int answer = x.scan();
        String what = " of " + Checks.brief(modules);
        c.same("fault" + what, fault, x.fault(0));
        c.same("place" + what, place, x.fault(1));
        c.same("answer" + what, fault == 0 ? x.list(0) : -1, answer);
    }

    /** The strip, which begins and ends with a bar, with spaces and without. */
    private static void withSpaces(Checks c, int fault, int place, String modules) {
        scans(c, fault, place, modules);
        scans(c, fault, fault > 10 ? place + 7 : place, "0".repeat(7) + modules);
        scans(c, fault, place, modules + "0".repeat(23));
        scans(c, fault, fault > 10 ? place + 1 : place, "0" + modules + "0");
    }

    /** As above, and turned round, where START at its other end makes it be read from there. */
    private static void either(Checks c, int fault, int place, String modules) {
        withSpaces(c, fault, place, modules);
        int turned = fault > 10 ? modules.length() - 1 - place : place;
        withSpaces(c, fault, turned, Checks.reversed(modules));
    }

    private static void spacesLeftOut(Checks c) {
        c.sentence("Terms 4", "SCANNED: spaces at either end are left out");
        either(c, 0, -1, GOOD);
        for (int spaces : new int[] {1, 9, 10, 11, 500, 2000 - GOOD.length()}) {
            scans(c, 0, -1, "0".repeat(spaces) + GOOD);
            scans(c, 0, -1, GOOD + "0".repeat(spaces));
            scans(c, 0, -1, "0".repeat(spaces) + Checks.reversed(GOOD));
        }
        scans(c, 0, -1, "0".repeat(900) + GOOD + "0".repeat(1100 - GOOD.length()));
    }

    private static void right(Checks c, int due, String modules) {
        LabelPress x = new LabelPress();
        Checks.draw(x, modules);
        c.same("scan " + modules, 1, x.scan());
        c.same("from the right " + modules, due, x.scanned(2));
        c.same("list", "(20)12", Checks.outOf(x, true));
    }

    private static void fromWhichSide(Checks c) {
        c.sentence("Terms 4", "if the first 11 MODULES are START (103, 104 or 105), or the last 11, turned "
            + "round, are not, it is read from the left, else from the right");
        for (int start = 103; start <= 105; start++) {
            String good = Checks.modulesOf(start == 105 ? Checks.framed(105, 20, 12)
                : Checks.framed(start, 18, 16, 17, 18));
            int n = good.length();
            right(c, 0, good);
            right(c, 0, "00" + good + "0");
            right(c, 1, Checks.reversed(good));
            right(c, 1, "0" + Checks.reversed(good) + "000");
            // START at both ends: from the left. Each has the other one behind its STOP.
            scans(c, 13, n, good + Checks.reversed(good));
            scans(c, 13, n + 3, "000" + good + Checks.reversed(GOOD));
            // START at the right end alone, and what is read ends within the left one.
            String bad = Checks.reversed(good) + "1";
            scans(c, 12, 0, bad);
        }
        // At neither end: from the left.
        scans(c, 12, 0, Checks.modulesOf(102, 20, 106));
        scans(c, 12, 5, "00000" + Checks.modulesOf(20, 105, 106));
        scans(c, 12, 2, "00" + Checks.reversed(Checks.modulesOf(20, 106)));
        // Other CHARACTERS at the right end, turned round, are no START.
        for (int character = 0; character < 103; character++) {
            scans(c, 12, 0, Checks.reversed(Checks.modulesOf(character, 102, 20, 12, 106)));
        }
        // A START with MODULES wanting is none.
        scans(c, 12, 0, "11010011111");
        scans(c, 12, 0, "1101001");
    }

    private static void numberedFromTheLeft(Checks c) {
        c.sentence("Terms 4", "as numbered from the left, with the spaces; of one read from the right as "
            + "well: the one that is read first of it");
        String bad = Checks.modulesOf(105, 102, 20, 12, 79, 106);
        scans(c, 14, 44, bad);
        scans(c, 14, 49, "00000" + bad);
        scans(c, 14, bad.length() - 1 - 44, Checks.reversed(bad));
        scans(c, 14, 5 + bad.length() - 1 - 44, "00000" + Checks.reversed(bad) + "000");
        scans(c, 16, 22, Checks.modulesOf(Checks.framed(104, 96, 97)));
        String meaningless = Checks.modulesOf(Checks.framed(104, 96, 97));
        scans(c, 16, 2 + meaningless.length() - 1 - 22, "00" + Checks.reversed(meaningless));
    }

    private static void noBar(Checks c) {
        c.sentence("Terms 4", "11 there is no bar (at 0)");
        for (int spaces : new int[] {0, 1, 10, 11, 13, 160, 1999, 2000}) {
            scans(c, 11, 0, "0".repeat(spaces));
        }
        scans(c, 12, 0, "1");
        scans(c, 12, 3, "0001");
        scans(c, 12, 0, "1000");
        scans(c, 12, 1999, "0".repeat(1999) + "1");
    }

    private static void noCharacter(Checks c) {
        c.sentence("Terms 4", "12 what stands there is no CHARACTER");
        String head = Checks.modulesOf(105, 102);
        for (String none : ("11111111111 10000000000 10101010101 11011001101 00000000000 "
            + "01101100110").split(" ")) {
            either(c, 12, 22, head + none + Checks.modulesOf(20, 106));
            either(c, 12, 33, head + Checks.modulesOf(20) + none + Checks.modulesOf(106));
        }
        // Each CHARACTER with one MODULE of it inked otherwise, unless that makes it another one.
        String all = Checks.modulesOf(105, 102, 50, 12, 106);
        for (int at = 22; at < 33; at++) {
            char other = all.charAt(at) == '1' ? '0' : '1';
            either(c, 12, 22, all.substring(0, at) + other + all.substring(at + 1));
        }
        c.sentence("Terms 4", "or none there");
        scans(c, 12, 0, Checks.modulesOf(20, 12, 106));
        scans(c, 12, 0, Checks.modulesOf(102, 106));
        scans(c, 12, 0, Checks.modulesOf(0, 105, 102, 20, 12, 79, 106));
    }

    private static void startElsewhere(Checks c) {
        c.sentence("Terms 4", "or a START not at the beginning");
        for (int start = 103; start <= 105; start++) {
            either(c, 12, 11, Checks.modulesOf(105, start, 20, 106));
            either(c, 12, 22, Checks.modulesOf(105, 102, start, 106));
            either(c, 12, 33, Checks.modulesOf(104, 102, 20, start, 12, 106));
        }
    }

    private static void stopFirst(Checks c) {
        c.sentence("Terms 4", "STOP is looked for first: what is STOP is no other");
        scans(c, 12, 0, Checks.modulesOf(106));
        scans(c, 12, 4, "0000" + Checks.modulesOf(106) + "00");
        scans(c, 12, 0, Checks.modulesOf(106, 105));
        either(c, 13, GOOD.length(), GOOD + Checks.modulesOf(106));
        // All of its thirteen MODULES are asked for.
        either(c, 12, 33, Checks.modulesOf(105, 102, 20) + "1100011101011".substring(0, 12) + "01");
        either(c, 12, 33, Checks.modulesOf(105, 102, 20) + "11000111010");
    }

    private static void fewerThanEleven(Checks c) {
        c.sentence("Terms 4", "fewer than 11 MODULES are none");
        for (int n = 1; n < 11; n++) {
            String some = "1".repeat(n);
            scans(c, 12, 0, some);
            either(c, 12, 11, Checks.modulesOf(105) + some);
            either(c, 12, 22, Checks.modulesOf(105, 102) + some);
        }
        // The last one's spaces are left out as those at the end are: ten MODULES of it stay.
        scans(c, 12, 0, Checks.modulesOf(105));
        scans(c, 12, 11, Checks.modulesOf(105, 102));
        scans(c, 12, 22, Checks.modulesOf(105, 102, 20));
        scans(c, 12, 10, Checks.reversed(Checks.modulesOf(105, 102, 20)));
    }

    /** START, FNC1, and so many of set B: 91 with a VALUE, 92 with another one; CHECK, STOP. */
    private static int[] longSymbol(int data) {
        int[] all = new int[data];
        Arrays.fill(all, 33);
        all[0] = 25;
        all[1] = 17;
        all[46] = 102;
        all[47] = 25;
        all[48] = 18;
        return Checks.framed(104, all);
    }

    private static void hundredAndFirst(Checks c) {
        c.sentence("Terms 4", "also at the 101st, STOP counted");
        either(c, 0, -1, Checks.modulesOf(longSymbol(95)));
        either(c, 0, -1, Checks.modulesOf(longSymbol(96)));
        either(c, 12, 1100, Checks.modulesOf(longSymbol(97)));
        either(c, 12, 1100, Checks.modulesOf(longSymbol(98)));
        either(c, 12, 1100, Checks.modulesOf(longSymbol(150)));
        either(c, 13, 1102, Checks.modulesOf(longSymbol(96)) + "1");
        either(c, 14, 98 * 11, Checks.modulesOf(longSymbol(95)).substring(0, 97 * 11)
            + Checks.modulesOf(33, 0, 106));
        // A row of a hundred without STOP, and one that is no CHARACTER ahead of the 101st.
        either(c, 12, 1100, Checks.modulesOf(longSymbol(97)).substring(0, 1100) + "1");
        either(c, 12, 1089, Checks.modulesOf(longSymbol(97)).substring(0, 1089) + "1".repeat(11));
        LabelPress x = new LabelPress();
        Checks.draw(x, Checks.modulesOf(longSymbol(96)));
        c.same("two elements", 2, x.scan());
        c.same("100 characters", 100, x.scanned(0));
        c.same("96 bytes", 96, x.scanned(1));
        int[] digits = new int[96];
        Arrays.fill(digits, 34);
        digits[0] = 91;
        digits[46] = 102;
        digits[47] = 92;
        digits[93] = 102;
        digits[94] = 90;
        Checks.draw(x, Checks.modulesOf(Checks.framed(105, digits)));
        c.same("three elements", 3, x.scan());
        c.same("100 characters", 100, x.scanned(0));
        c.same("190 bytes", 190, x.scanned(1));
        c.same("90 bytes of a VALUE", 90, x.element(1, 2));
    }

    private static void behindStop(Checks c) {
        c.sentence("Terms 4", "13 something behind STOP, at its first MODULE");
        int n = GOOD.length();
        for (String behind : "1 11 01 001 0000000000000001 10000000001".split(" ")) {
            either(c, 13, n, GOOD + behind);
        }
        either(c, 13, n, GOOD + GOOD);
        either(c, 13, n, GOOD + Checks.modulesOf(20, 12, 106));
        scans(c, 0, -1, GOOD + "0");
        either(c, 13, 24, Checks.modulesOf(105, 106) + "1");
    }

    private static void notTheCheck(Checks c) {
        c.sentence("Terms 4", "14 the one ahead of STOP is not the CHECK of those ahead (also if it is START)");
        for (int start = 103; start <= 105; start++) {
            either(c, 14, 0, Checks.modulesOf(start, 106));
            either(c, 14, 11, Checks.modulesOf(start, 102, 106));
            either(c, 14, 11, Checks.modulesOf(start, (start + 1) % 103, 106));
        }
        int due = Checks.checkOf(105, 102, 20, 12);
        for (int check = 0; check < 103; check++) {
            String modules = Checks.modulesOf(105, 102, 20, 12, check, 106);
            either(c, check == due ? 0 : 14, check == due ? -1 : 44, modules);
        }
        // Rows whose sum is a multiple of 103, and one less.
        for (int n = 0; n < 100; n++) {
            for (int m = 0; m < 10; m++) {
                int check = Checks.checkOf(105, 102, 90, n, m);
                if (check == 0 || check == 102) {
                    scans(c, 0, -1, Checks.modulesOf(105, 102, 90, n, m, check, 106));
                    scans(c, 14, 55, Checks.modulesOf(105, 102, 90, n, m, 102 - check, 106));
                }
            }
        }
    }

    private static void notTheFunction(Checks c) {
        c.sentence("Terms 4", "15 the one behind START is not FNC1 (or is the CHECK)");
        either(c, 15, 11, Checks.modulesOf(103, 0, 106));
        either(c, 15, 11, Checks.modulesOf(104, 1, 106));
        either(c, 15, 11, Checks.modulesOf(105, 2, 106));
        for (int character = 0; character < 102; character++) {
            either(c, 15, 11, Checks.modulesOf(Checks.closed(105, character, 20, 12)));
        }
        either(c, 15, 11, Checks.modulesOf(Checks.closed(105, 20, 102)));
        // FNC1 alone: the STRING has no byte.
        either(c, 1, 0, Checks.modulesOf(Checks.framed(105)));
        either(c, 1, 0, Checks.modulesOf(Checks.framed(103)));
    }

    private static void inTheirOrder(Checks c) {
        c.sentence("Terms 4", "FAULTS: 11, 12, 13, 14, 15. Then along them: 16. Then the STRING's own");
        either(c, 12, 22, Checks.modulesOf(105, 20) + "11111111111" + Checks.modulesOf(3, 106) + "1");
        either(c, 13, 57, Checks.modulesOf(105, 20, 12, 0, 106) + "1");
        either(c, 14, 33, Checks.modulesOf(105, 20, 12, 0, 106));
        either(c, 14, 44, Checks.modulesOf(104, 102, 96, 97, 0, 106));
        either(c, 15, 11, Checks.modulesOf(Checks.closed(104, 96, 97)));
        either(c, 16, 22 + 33, Checks.modulesOf(Checks.framed(104, 25, 16, 0, 96)));
        either(c, 16, 22 + 22, Checks.modulesOf(Checks.framed(104, 16, 19, 97, 96)));
        either(c, 16, 22, Checks.modulesOf(Checks.framed(104, 98)));
        either(c, 4, 2, Checks.modulesOf(Checks.framed(104, 25, 16, 0)));
    }

    private static void listStays(Checks c) {
        c.sentence("31", "NONE with a FAULT (the list stays)");
        State.badStrip(c, "", true);
        State.badStrip(c, "0001", true);
        State.badStrip(c, Checks.modulesOf(105, 102, 106), true);
        State.badStrip(c, Checks.modulesOf(105, 106) + "1", true);
        State.badStrip(c, Checks.modulesOf(105, 2, 106), true);
        State.badStrip(c, Checks.modulesOf(Checks.framed(104, 96)), false);
        State.badStrip(c, Checks.modulesOf(Checks.framed(105, 3)), false);
        State.badStrip(c, Checks.modulesOf(Checks.framed(105)), false);
        c.sentence("Terms 4", "What is scanned without a FAULT is the LIST");
        LabelPress x = Checks.pressWith("(90)A(91)B");
        Checks.draw(x, GOOD);
        c.same("scanned", 1, x.scan());
        c.same("it is the list", "(20)12", Checks.outOf(x, true));
        Checks.draw(x, Checks.modulesOf(Checks.framed(105, manyTwenties(20))));
        c.same("twenty of an AI", -1, x.scan());
        c.same("an AI that another one has", 7, x.fault(0));
        c.same("the second one", 4, x.fault(1));
        Checks.draw(x, Checks.modulesOf(Checks.framed(105, manyTwenties(21))));
        c.same("twenty-one", -1, x.scan());
        c.same("a 21st", 9, x.fault(0));
        c.same("its first byte", 80, x.fault(1));
        c.same("the list stays", "(20)12", Checks.outOf(x, true));
        Checks.draw(x, Checks.modulesOf(Checks.framed(105, 90, 12, 102, 91, 12, 102, 92, 12, 102, 93, 12,
            102, 94, 12, 102, 95, 12, 102, 96, 12, 102, 97, 12, 102, 98, 12, 102, 99, 12, 102, 10, 12, 102,
            21, 12, 102, 22, 12, 102, 30, 12, 102, 37, 12, 102, 20, 12, 12, 25, 1, 1, 11, 25, 1, 1, 13, 25,
            1, 1, 17, 25, 1, 1)));
        c.same("twenty are the list", 20, x.scan());
    }

    private static int[] manyTwenties(int n) {
        int[] data = new int[2 * n];
        for (int i = 0; i < data.length; i++) {
            data[i] = i % 2 == 0 ? 20 : 12;
        }
        return data;
    }

    private static void scannedIs(Checks c, LabelPress x, int characters, int bytes, int right) {
        c.same("characters", characters, x.scanned(0));
        c.same("bytes", bytes, x.scanned(1));
        c.same("from the right", right, x.scanned(2));
    }

    private static void scannedOfLatest(Checks c) {
        c.sentence("32", "NONE for others; 0 ahead of any");
        LabelPress x = new LabelPress();
        scannedIs(c, x, 0, 0, 0);
        Checks.draw(x, GOOD);
        scannedIs(c, x, 0, 0, 0);
        x.scan();
        for (int far : CallBoundaries.FAR) {
            c.same("scanned " + far, -1, x.scanned(far));
        }
        c.same("3", -1, x.scanned(3));
        c.sentence("32", "Of the latest scan() without FAULTS 11 to 15");
        scannedIs(c, x, 6, 4, 0);
        x.turn();
        scannedIs(c, x, 6, 4, 0);
        x.scan();
        scannedIs(c, x, 6, 4, 1);
        String[] bad = {"", "1", GOOD + "1", Checks.modulesOf(105, 102, 106), Checks.modulesOf(105, 2, 106)};
        for (int i = 0; i < bad.length; i++) {
            Checks.draw(x, bad[i]);
            x.scan();
            c.same("fault " + (11 + i), 11 + i, x.fault(0));
            scannedIs(c, x, 6, 4, 1);
        }
        c.sentence("32", "1 bytes of the STRING (0 with FAULT 16)");
        Checks.draw(x, Checks.modulesOf(Checks.framed(104, 25, 16, 33, 34, 96)));
        x.scan();
        scannedIs(c, x, 9, 0, 0);
        Checks.draw(x, Checks.modulesOf(Checks.framed(105)));
        x.scan();
        scannedIs(c, x, 4, 0, 0);
        Checks.draw(x, Checks.reversed(Checks.modulesOf(Checks.framed(104, 25, 16, 0, 102))));
        x.scan();
        c.same("with a STRING's own fault", 4, x.fault(0));
        scannedIs(c, x, 8, 4, 1);
        Checks.draw(x, Checks.modulesOf(Checks.framed(104, 98)));
        x.scan();
        scannedIs(c, x, 5, 0, 0);
    }
}
