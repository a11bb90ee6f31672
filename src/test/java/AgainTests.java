import java.util.Random;

/** What a used press answers is what a new one answers: earlier calls leave nothing behind. */
final class AgainTests {
    private static final String KEY = "(01)" + Checks.KEY14;
    private static final String[] TEXTS = {
        "", "(", "x", "(90", "(90)A", "(90)ABC(20)12", "(20)12(90)ABCDEFGHIJ", "(90)A#",
        "(03)1", "(90)A(90)B", "(10)A", KEY, KEY + "(10)A", KEY + "(02)1", "(01)04012345123457",
        "(7003)2501312359", "(7003)2501312459", "(7007)250131", "(7007)250131250200",
        "(7007)250131250230", "(8008)25013112", "(8008)2501311230", "(253)4012345123456XYZ",
        "(91)" + "z".repeat(90), "(91)" + "1".repeat(47), "(91)\\(\\(", "(3201)123456(3101)123456",
        "(3201)123456(3211)123456", "(240)A(241)B(243)C(250)D(251)E(90)1(91)22(92)333(93)4444",
        "(20)12(12)250100(410)0000000000000",
    };
    private static final int[][] SYMBOLS = {
        {105, 20, 12}, {104, 25, 16, 33}, {103, 25, 16, 33, 98, 65}, {104, 25, 16, 96, 33},
        {104, 25, 16, 33, 34, 35, 98}, {105, 90, 12, 102, 91, 34}, {105, 3}, {104},
        {104, 25, 16, 0}, {105, 20, 12, 100, 25, 16, 65}, {105, 12, 25, 1, 0, 20, 12},
        {105, 90, 12, 102, 90, 34},
    };

    static void run(Checks c) {
        for (int seed = 0; seed < 600; seed++) {
            again(c, new Random(seed));
        }
    }

    private static String strip(Random random) {
        int[] symbol = SYMBOLS[random.nextInt(SYMBOLS.length)];
        int[] data = java.util.Arrays.copyOfRange(symbol, 1, symbol.length);
        String bars = Checks.modulesOf(Checks.framed(symbol[0], data));
        switch (random.nextInt(8)) {
            case 0:
                int at = random.nextInt(bars.length());
                char other = bars.charAt(at) == '1' ? '0' : '1';
                bars = bars.substring(0, at) + other + bars.substring(at + 1);
                break;
            case 1:
                bars = bars.substring(0, random.nextInt(bars.length()));
                break;
            case 2:
                bars += "01";
                break;
            default:
                break;
        }
        bars = "0".repeat(random.nextInt(30)) + bars + "0".repeat(random.nextInt(30));
        return random.nextBoolean() ? Checks.reversed(bars) : bars;
    }

    private static void use(LabelPress x, Random random) {
        switch (random.nextInt(9)) {
            case 0:
            case 1:
                Checks.readInBrackets(x, TEXTS[random.nextInt(TEXTS.length)]);
                break;
            case 2:
            case 3:
                Checks.draw(x, strip(random));
                x.scan();
                break;
            case 4:
                x.write(random.nextBoolean());
                break;
            case 5:
                x.shelve(random.nextInt(3));
                break;
            case 6:
                x.join(random.nextInt(3));
                break;
            case 7:
                x.arrange();
                break;
            default:
                if (x.list(0) > 0) {
                    x.symbol(random.nextInt(x.list(0)));
                }
        }
    }

    private static void again(Checks c, Random random) {
        LabelPress used = new LabelPress();
        for (int n = 0; n < 8; n++) {
            use(used, random);
        }
        LabelPress fresh = new LabelPress();
        if (random.nextBoolean()) {
            String text = TEXTS[random.nextInt(TEXTS.length)];
            c.same("6 read again " + text, Checks.readInBrackets(fresh, text),
                Checks.readInBrackets(used, text));
        } else {
            String strip = strip(random);
            Checks.draw(fresh, strip);
            Checks.draw(used, strip);
            c.same("31 scan again " + strip, fresh.scan(), used.scan());
            if (fresh.fault(0) < 11 || fresh.fault(0) == 16) {
                c.same("32 after " + strip, scanned(fresh), scanned(used));
            }
        }
        c.same("7 again", fresh.fault(0), used.fault(0));
        c.same("7 its place again", fresh.fault(1), used.fault(1));
        if (fresh.fault(0) == 0) {
            sameList(c, fresh, used);
        }
    }

    private static String scanned(LabelPress x) {
        return x.scanned(0) + " " + x.scanned(1) + " " + x.scanned(2);
    }

    private static void sameList(Checks c, LabelPress fresh, LabelPress used) {
        c.same("8 symbols again", fresh.list(2), used.list(2));
        if (fresh.list(2) != LabelPress.NONE) {
            c.same("23 again", fresh.symbol(0), used.symbol(0));
            c.same("24 again", Checks.symbolOf(fresh), Checks.symbolOf(used));
            c.same("25 again", fresh.print(), used.print());
            c.same("31 printed again", fresh.scan(), used.scan());
        }
        c.same("17 again", fresh.arrange(), used.arrange());
        for (int k = 0; k < fresh.list(0); k++) {
            c.same("9 parts again", fresh.element(k, 3), used.element(k, 3));
            c.same("12 again", fresh.part(k, 0, 0) == 2 ? -1 : fresh.number(k, 0), used.number(k, 0));
        }
        c.same("15 again", Checks.outOf(fresh, true), Checks.outOf(used, true));
    }
}
