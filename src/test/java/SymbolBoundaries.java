/** Terms, 4, and promises 23 to 25: bounds of symbols, and their print. */
final class SymbolBoundaries {
    private static final Class<?> INDEX = IndexOutOfBoundsException.class;

    static void run(Checks c) {
        atMostSoManyBytes(c);
        asManyAsGo(c);
        goesInNone(c);
        noSuchElement(c);
        setB(c);
        setC(c);
        separators(c);
        leastOfSeveral(c);
        checkCharacter(c);
        noSuchCharacter(c);
        noSymbol(c);
        printed(c);
    }

    private static void atMostSoManyBytes(Checks c) {
        c.sentence("Terms 4", "their STRING has at most 48 bytes");
        for (int bytes = 40; bytes <= 55; bytes++) {
            goes(c, bytes <= 48, "(91)" + "A".repeat(bytes - 2));
            goes(c, bytes <= 48, "(91)" + "1".repeat(bytes - 2));
        }
        goes(c, true, "(253)" + "0".repeat(13) + "X".repeat(17));
        goes(c, true, "(8007)" + "A".repeat(34));
        goes(c, false, "(91)" + "A".repeat(90));
        // As many CHARACTERS as 48 bytes can take: none of them tells two.
        LabelPress x = Checks.pressWith("(91)" + "a".repeat(46));
        x.symbol(0);
        c.same("STOP", 106, x.character(51));
        c.same("none behind", -1, x.character(52));
        x = Checks.pressWith("(91)" + "1".repeat(46));
        x.symbol(0);
        c.same("STOP of digits", 106, x.character(27));
        c.same("none behind", -1, x.character(28));
    }

    private static void goes(Checks c, boolean due, String text) {
        LabelPress x = Checks.pressWith(text);
        c.same("symbol of " + text, due ? 1 : -1, x.symbol(0));
        c.same("symbols of " + text, due ? 1 : -1, x.list(2));
        c.same("made", due ? 1 : 0, x.character(0) != LabelPress.NONE ? 1 : 0);
    }

    private static void asManyAsGo(Checks c) {
        c.sentence("Terms 4", "A symbol is made of ELEMENTS of the list from one on, as many as go");
        // What goes with the first one: it has 3 bytes, and a byte 29 behind it.
        taken(c, 2, 0, "(90)A(91)" + "A".repeat(42));
        taken(c, 1, 0, "(90)A(91)" + "A".repeat(43));
        taken(c, 2, 0, "(20)12(91)" + "A".repeat(42));
        taken(c, 1, 0, "(20)12(91)" + "A".repeat(43));
        taken(c, 3, 0, "(90)A(20)12(91)" + "A".repeat(38));
        taken(c, 2, 0, "(90)A(20)12(91)" + "A".repeat(39));
        // One behind that would go is not taken over one that doesn't.
        taken(c, 1, 0, "(20)12(91)" + "A".repeat(43) + "(92)A");
        taken(c, 2, 1, "(20)12(91)" + "A".repeat(42) + "(92)A");
        taken(c, 1, 0, "(90)A");
        taken(c, 12, 0, "(20)12" + small());
        LabelPress x = Checks.pressWith("(90)A(91)B(92)C");
        c.same("from the first", 3, x.symbol(0));
        c.same("from the second", 2, x.symbol(1));
        c.same("from the last", 1, x.symbol(2));
        c.same("its string", "104 102 25 18 35 " + Checks.checkOf(104, 102, 25, 18, 35) + " 106",
            Checks.symbolOf(x));
    }

    /** Eleven ELEMENTS of 3 bytes, with a byte 29 behind each, then one that goes in no more. */
    private static String small() {
        return "(90)A(91)A(92)A(93)A(94)A(95)A(96)A(97)A(98)A(99)A(22)A(30)1";
    }

    private static void taken(Checks c, int due, int from, String text) {
        LabelPress x = Checks.pressWith(text);
        c.same("taken of " + text, due, x.symbol(from));
    }

    private static void goesInNone(Checks c) {
        c.sentence("23", "NONE, and the symbol stays, if that one goes in none");
        String big = "(91)" + "A".repeat(47);
        LabelPress x = Checks.pressWith(big);
        c.same("none", -1, x.symbol(0));
        c.same("there is no symbol yet", -1, x.character(0));
        c.fails("nor a print", IllegalStateException.class, x::print);
        Checks.readInBrackets(x, "(90)A" + big + "(92)B");
        c.same("the first one", 1, x.symbol(0));
        String symbol = Checks.symbolOf(x);
        c.same("the big one", -1, x.symbol(1));
        c.same("the symbol stays", symbol, Checks.symbolOf(x));
        c.fails("beyond", INDEX, () -> x.symbol(3));
        c.same("the symbol stays", symbol, Checks.symbolOf(x));
        c.same("the last one", 1, x.symbol(2));
        c.yes("another symbol", !symbol.equals(Checks.symbolOf(x)));
        c.same("it is printed", 20 + 6 * 11 + 13, x.print());
        x.symbol(1);
        c.same("as before", 20 + 6 * 11 + 13, x.print());
        Checks.readInBrackets(x, "(20)12");
        c.same("it stays with another list", 104, x.character(0));
    }

    private static void noSuchElement(Checks c) {
        c.sentence("23", "IndexOutOfBoundsException: there is no such ELEMENT");
        LabelPress x = new LabelPress();
        c.fails("of none", INDEX, () -> x.symbol(0));
        Checks.readInBrackets(x, "(90)A(91)B");
        c.same("the last one", 1, x.symbol(1));
        for (int k : new int[] {2, 3, 20, -1, Integer.MIN_VALUE, Integer.MAX_VALUE}) {
            c.fails("symbol " + k, INDEX, () -> x.symbol(k));
        }
        c.same("the symbol stays", 17, x.character(3));
    }

    private static void setB(Checks c) {
        c.sentence("Terms 4", "Set B: a byte b from 32 to 127 is b - 32");
        String signs = "!\"%&'()*+,-./:;<=>?_ABCDEFGHIJKLMNOPQRSTUVWXYZ"
            + "abcdefghijklmnopqrstuvwxyz";
        for (int i = 0; i < signs.length(); i++) {
            char sign = signs.charAt(i);
            LabelPress x = Checks.pressWith("(90)" + (sign == '(' ? "\\" : "") + sign);
            x.symbol(0);
            c.same("of " + sign, "104 102 25 16 " + (sign - 32) + " "
                + Checks.checkOf(104, 102, 25, 16, sign - 32) + " 106", Checks.symbolOf(x));
        }
        for (int digit = 0; digit < 10; digit++) {
            LabelPress x = Checks.pressWith("(90)a" + digit + "a");
            x.symbol(0);
            c.same("of " + digit, 16 + digit, x.character(5));
        }
    }

    private static void setC(Checks c) {
        c.sentence("Terms 4", "set C: two digits are the number that they tell");
        for (int n = 0; n < 100; n++) {
            LabelPress x = Checks.pressWith(String.format("(90)%02d%02d", n, 99 - n));
            x.symbol(0);
            c.same("of " + n, "105 102 90 " + n + " " + (99 - n) + " "
                + Checks.checkOf(105, 102, 90, n, 99 - n) + " 106", Checks.symbolOf(x));
        }
    }

    private static void symbolIs(Checks c, String text, int... due) {
        LabelPress x = Checks.pressWith(text);
        x.symbol(0);
        StringBuilder row = new StringBuilder();
        for (int character : Checks.closed(due)) {
            row.append(row.length() == 0 ? "" : " ").append(character);
        }
        c.same("symbol of " + text, row.toString(), Checks.symbolOf(x));
    }

    private static void separators(Checks c) {
        c.sentence("Terms 4", "in both a byte 29 is FNC1");
        symbolIs(c, "(90)AB(91)CD", 104, 102, 25, 16, 33, 34, 102, 25, 17, 35, 36);
        symbolIs(c, "(90)12(91)34", 105, 102, 90, 12, 102, 91, 34);
        symbolIs(c, "(20)12(30)34(90)56", 105, 102, 20, 12, 30, 34, 102, 90, 56);
        c.sentence("Terms 4", "99 changes from B to C, 100 from C to B");
        symbolIs(c, "(90)ABCDE12345678", 104, 102, 25, 16, 33, 34, 35, 36, 37, 99, 12, 34, 56, 78);
        symbolIs(c, "(90)123456789ABCDE", 105, 102, 90, 12, 34, 56, 78, 100, 25, 33, 34, 35, 36, 37);
    }

    private static void leastOfSeveral(Checks c) {
        c.sentence("Terms 4", "one with the fewest CHARACTERS, of several the one whose first CHARACTER "
            + "that differs is the least");
        // As many from either START: 104 is the least.
        symbolIs(c, "(90)A", 104, 102, 25, 16, 33);
        symbolIs(c, "(90)1A", 104, 102, 25, 16, 17, 33);
        symbolIs(c, "(90)12A", 105, 102, 90, 12, 100, 33);
        symbolIs(c, "(90)123", 104, 102, 25, 99, 1, 23);
        symbolIs(c, "(90)1", 104, 102, 25, 16, 17);
        symbolIs(c, "(90)12", 105, 102, 90, 12);
        symbolIs(c, "(90)1234A", 105, 102, 90, 12, 34, 100, 33);
        // Four digits in the midst take as many in either set: a byte is less than 99 is.
        symbolIs(c, "(90)A1234B", 104, 102, 25, 16, 33, 17, 18, 19, 20, 34);
        symbolIs(c, "(90)A123456B", 104, 102, 25, 16, 33, 99, 12, 34, 56, 100, 34);
        symbolIs(c, "(90)A1234", 104, 102, 25, 16, 33, 99, 12, 34);
        symbolIs(c, "(90)A123", 104, 102, 25, 16, 33, 17, 18, 19);
        symbolIs(c, "(90)A12345", 104, 102, 25, 16, 33, 17, 99, 23, 45);
        // Ahead of a byte 29 a change is less than FNC1 is.
        symbolIs(c, "(90)A(30)12", 104, 102, 25, 16, 33, 99, 102, 30, 12);
        symbolIs(c, "(30)12(90)A", 105, 102, 30, 12, 102, 90, 100, 33);
    }

    private static void checkCharacter(Checks c) {
        c.sentence("Terms 4", "all added up, modulo 103");
        boolean[] seen = new boolean[103];
        int different = 0;
        for (int n = 0; n < 600; n++) {
            LabelPress x = Checks.pressWith(String.format("(90)%04d", n * 7));
            x.symbol(0);
            int due = Checks.checkOf(105, 102, 90, n * 7 / 100, n * 7 % 100);
            c.same("CHECK of " + n * 7, due, x.character(5));
            different += seen[due] ? 0 : 1;
            seen[due] = true;
        }
        c.same("each CHECK, 0 and 102 too", 103, different);
    }

    private static void noSuchCharacter(Checks c) {
        c.sentence("24", "CHARACTER i of the symbol (STOP is the last one); NONE if there is none such, "
            + "or no symbol");
        LabelPress x = new LabelPress();
        c.same("no symbol", -1, x.character(0));
        Checks.readInBrackets(x, "(90)ABCDEFG");
        c.same("no symbol with a list", -1, x.character(0));
        x.symbol(0);
        c.same("START", 104, x.character(0));
        c.same("STOP", 106, x.character(12));
        c.same("behind STOP", -1, x.character(13));
        for (int far : CallBoundaries.FAR) {
            c.same("character " + far, -1, x.character(far));
        }
        Checks.readInBrackets(x, "(20)12");
        x.symbol(0);
        c.same("STOP of a shorter one", 106, x.character(5));
        c.same("none of those that were there", -1, x.character(6));
    }

    private static void noSymbol(Checks c) {
        c.sentence("25", "IllegalStateException: there is no symbol");
        Class<?> state = IllegalStateException.class;
        LabelPress x = new LabelPress();
        c.fails("of a new one", state, x::print);
        Checks.readInBrackets(x, "(90)A");
        c.fails("with a list", state, x::print);
        Checks.draw(x, Checks.modulesOf(Checks.framed(105, 20, 12)));
        x.scan();
        c.fails("with a strip that was scanned", state, x::print);
        c.same("the strip stays", Checks.modulesOf(Checks.framed(105, 20, 12)), Checks.stripOf(x));
        x.symbol(0);
        c.same("with a symbol", 20 + 5 * 11 + 13, x.print());
        x.fetch(0);
        c.same("with an empty list", 20 + 5 * 11 + 13, x.print());
    }

    private static void printed(Checks c) {
        c.sentence("Terms 4", "PRINTED the symbol is the strip: ten spaces, its BARS, ten spaces");
        LabelPress x = Checks.pressWith("(20)12");
        x.symbol(0);
        for (int n = 0; n < 12; n++) {
            x.bars(-1, -1, -1, -1, -1);
        }
        x.cut(1920);
        c.same("onto a long strip", 88, x.print());
        c.same("printed", "0".repeat(10) + Checks.modulesOf(105, 102, 20, 12, x.character(4), 106)
            + "0".repeat(10), Checks.stripOf(x));
        c.same("none behind", -1, x.module(88));
        c.same("printed again", 88, x.print());
        c.same("none behind", -1, x.module(88));
        x = Checks.pressWith("(91)" + "a".repeat(46));
        x.symbol(0);
        c.same("the longest", 20 + 51 * 11 + 13, x.print());
        c.same("its last bar", 1, x.module(9 + 51 * 11 + 13));
        c.same("a space behind", 0, x.module(10 + 51 * 11 + 13));
        c.same("the last space", 0, x.module(19 + 51 * 11 + 13));
        c.same("none behind", -1, x.module(20 + 51 * 11 + 13));
        c.same("scanned", 1, x.scan());
    }
}
