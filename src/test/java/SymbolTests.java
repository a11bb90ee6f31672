import java.util.HashMap;
import java.util.Map;
import java.util.Random;

/** Promises 23 to 25: symbols of the fewest CHARACTERS, and their print. */
final class SymbolTests {
    static void run(Checks c) {
        symbol(c);
        which(c);
        character(c);
        fewest(c);
        print(c);
        allCharacters(c);
    }

    private static void symbol(Checks c) {
        LabelPress x = Checks.pressWith("(00)106141411928374657");
        c.same("23 one", 1, x.symbol(0));
        c.same("23 set C", "105 102 0 10 61 41 41 19 28 37 46 57 " + Checks.checkOf(105, 102, 0, 10,
            61, 41, 41, 19, 28, 37, 46, 57) + " 106", Checks.symbolOf(x));
        x = Checks.pressWith("(90)A(91)B");
        c.same("23 two", 2, x.symbol(0));
        c.same("23 set B", "104 102 25 16 33 102 25 17 34 " + Checks.checkOf(104, 102, 25, 16, 33,
            102, 25, 17, 34) + " 106", Checks.symbolOf(x));
        c.same("23 from the second one on", 1, x.symbol(1));
        c.same("23 its string", "104 102 25 17 34 " + Checks.checkOf(104, 102, 25, 17, 34) + " 106",
            Checks.symbolOf(x));
    }

    private static void which(Checks c) {
        LabelPress x = Checks.pressWith("(20)12(99)" + "A".repeat(47) + "(98)A(97)B");
        c.same("23 as many as go", 1, x.symbol(0));
        String before = Checks.symbolOf(x);
        c.same("23 goes in none", -1, x.symbol(1));
        c.same("23 the symbol stays", before, Checks.symbolOf(x));
        c.same("23 the others", 2, x.symbol(2));
        c.fails("23 beyond", IndexOutOfBoundsException.class, () -> x.symbol(4));
        c.fails("23 below", IndexOutOfBoundsException.class, () -> x.symbol(-1));
        c.fails("23 empty", IndexOutOfBoundsException.class, () -> new LabelPress().symbol(0));
        LabelPress y = Checks.pressWith("(99)" + "a".repeat(46));
        c.same("23 48 bytes", 1, y.symbol(0));
        c.same("23 of 52 characters", 106, y.character(51));
        y = Checks.pressWith("(90)A(99)" + "A".repeat(43));
        c.same("23 49 bytes with the separator", 1, y.symbol(0));
        y = Checks.pressWith("(90)A(99)" + "A".repeat(42));
        c.same("23 48 bytes with the separator", 2, y.symbol(0));
    }

    private static void character(Checks c) {
        LabelPress x = new LabelPress();
        c.same("24 no symbol", -1, x.character(0));
        Checks.readInBrackets(x, "(20)12");
        c.same("24 none yet", -1, x.character(0));
        x.symbol(0);
        c.same("24 start", 105, x.character(0));
        c.same("24 FNC1", 102, x.character(1));
        c.same("24 data", 20, x.character(2));
        c.same("24 data", 12, x.character(3));
        c.same("24 check", (105 + 102 + 40 + 36) % 103, x.character(4));
        c.same("24 stop", 106, x.character(5));
        c.same("24 behind", -1, x.character(6));
        c.same("24 ahead", -1, x.character(-1));
        c.same("24 far", -1, x.character(Integer.MAX_VALUE));
        Checks.readInBrackets(x, "(90)A");
        c.same("24 it stays with another list", 20, x.character(2));
    }

    /** All rows are tried: the least one of the shortest is due. */
    private static void fewest(Checks c) {
        Random random = new Random(7);
        String[] values = {"A1", "1", "12", "123", "1234", "12345", "A1234", "A12345", "A123456B",
            "1234A1234", "A123", "A1234B", "a12B3456c789"};
        for (String first : values) {
            for (String second : values) {
                compare(c, "(90)" + first + "(99)" + second);
                compare(c, "(20)12(90)" + first + "(240)" + second);
                compare(c, "(422)276(90)" + first + "(427)A");
            }
        }
        for (int n = 0; n < 1500; n++) {
            compare(c, "(90)" + someValue(random) + "(240)" + someValue(random) + "(30)"
                + (random.nextInt(2) == 0 ? "1" : "12") + "(99)" + someValue(random));
        }
    }

    private static String someValue(Random random) {
        StringBuilder value = new StringBuilder();
        int n = 1 + random.nextInt(14);
        int letters = 1 + random.nextInt(6);
        for (int i = 0; i < n; i++) {
            value.append(random.nextInt(8) < letters ? (char) ('0' + random.nextInt(10)) : 'k');
        }
        return value.toString();
    }

    private static void compare(Checks c, String text) {
        LabelPress x = Checks.pressWith(text);
        int taken = x.symbol(0);
        StringBuilder string = new StringBuilder();
        for (int k = 0; k < taken; k++) {
            if (k > 0 && x.element(k - 1, 5) == 0) {
                string.append((char) 29);
            }
            string.append(String.format("%0" + x.element(k, 1) + "d", x.element(k, 0)));
            for (int i = 0; i < x.element(k, 2); i++) {
                string.append((char) x.letter(k, i));
            }
        }
        c.same("23 fewest of " + text, leastRow(string.toString()), rowOf(x));
    }

    /** The symbol's CHARACTERS without CHECK and STOP, each as one letter. */
    private static String rowOf(LabelPress x) {
        StringBuilder row = new StringBuilder();
        for (int i = 0; x.character(i + 2) != LabelPress.NONE; i++) {
            row.append((char) x.character(i));
        }
        return row.toString();
    }

    /** Rows grow by one CHARACTER a turn; of those that got equally far the least one is kept. */
    private static String leastRow(String string) {
        Map<Integer, String> rows = new HashMap<>();
        rows.put(0, "" + (char) 104 + (char) 102);
        rows.put(1, "" + (char) 105 + (char) 102);
        while (true) {
            String done = least(rows.get(2 * string.length()), rows.get(2 * string.length() + 1));
            if (done != null) {
                return done;
            }
            Map<Integer, String> longer = new HashMap<>();
            for (Map.Entry<Integer, String> entry : rows.entrySet()) {
                grow(string, entry.getKey() / 2, entry.getKey() % 2, entry.getValue(), longer);
            }
            rows = longer;
        }
    }

    private static void grow(String s, int i, int inC, String row, Map<Integer, String> longer) {
        keep(longer, 2 * i + 1 - inC, row + (char) (99 + inC));
        if (s.charAt(i) == 29) {
            keep(longer, 2 * (i + 1) + inC, row + (char) 102);
        } else if (inC == 0) {
            keep(longer, 2 * (i + 1), row + (char) (s.charAt(i) - 32));
        } else if (i + 1 < s.length() && s.substring(i, i + 2).matches("[0-9][0-9]")) {
            keep(longer, 2 * (i + 2) + 1, row + (char) Integer.parseInt(s.substring(i, i + 2)));
        }
    }

    private static void keep(Map<Integer, String> rows, int state, String row) {
        rows.put(state, least(rows.get(state), row));
    }

    private static String least(String one, String other) {
        if (one == null || other == null) {
            return one == null ? other : one;
        }
        return one.compareTo(other) <= 0 ? one : other;
    }

    private static void print(Checks c) {
        LabelPress x = Checks.pressWith("(20)12");
        c.fails("25 no symbol", IllegalStateException.class, x::print);
        x.symbol(0);
        Checks.draw(x, "1010");
        c.same("25 modules", 10 + 5 * 11 + 13 + 10, x.print());
        c.same("25 printed", "0".repeat(10) + Checks.modulesOf(105, 102, 20, 12,
            x.character(4), 106) + "0".repeat(10), Checks.stripOf(x));
        c.same("25 nothing behind", -1, x.module(88));
        c.same("25 again", 88, x.print());
        LabelPress y = Checks.pressWith("(99)" + "a".repeat(46));
        y.symbol(0);
        c.same("25 the longest", 20 + 51 * 11 + 13, y.print());
    }

    /** Each CHARACTER's BARS, by numbers of two digits and by letters. */
    private static void allCharacters(Checks c) {
        for (int n = 0; n < 100; n++) {
            LabelPress x = Checks.pressWith(String.format("(20)%02d", n));
            x.symbol(0);
            x.print();
            c.same("25 bars of " + n, "0".repeat(10) + Checks.modulesOf(105, 102, 20, n,
                Checks.checkOf(105, 102, 20, n), 106) + "0".repeat(10), Checks.stripOf(x));
            c.same("31 scanned again", 1, x.scan());
            c.same("31 number", n, x.number(0, 0));
        }
    }
}
