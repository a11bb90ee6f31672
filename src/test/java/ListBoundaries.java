/** Promises 8 to 15 and 17 to 21: bounds of the list, its ELEMENTS, and the SHELVES. */
final class ListBoundaries {
    private static final Class<?> INDEX = IndexOutOfBoundsException.class;
    private static final Class<?> NO_SUCH = java.util.NoSuchElementException.class;
    private static final String KEY = "(01)" + Checks.KEY14;
    private static final String TEN = "(90)A(91)A(92)A(93)A(94)A(95)A(96)A(97)A(98)A(99)A";
    private static final String OTHER_TEN = "(240)B(241)B(243)B(250)B(251)B(254)B(400)B(401)B(403)B"
        + "(7002)B";

    static void run(Checks c) {
        listOthers(c);
        listBytes(c);
        listSymbols(c);
        elementOthers(c);
        noSuchElement(c);
        noSuchLetter(c);
        noSuchPart(c);
        numbers(c);
        noSuchNumber(c);
        noSuchDate(c);
        finding(c);
        writing(c);
        arranging(c);
        shelving(c);
        fetching(c);
        comparing(c);
        joinTooMany(c);
        joinRepeated(c);
        joinWants(c);
        joinBehind(c);
    }

    private static void listOthers(Checks c) {
        c.sentence("8", "NONE for others");
        LabelPress x = Checks.pressWith("(90)A");
        for (int far : CallBoundaries.FAR) {
            c.same("list " + far, -1, x.list(far));
            c.same("list " + far + " of an empty one", -1, new LabelPress().list(far));
        }
        c.same("list 3", -1, x.list(3));
        c.same("list 3 of an empty one", -1, new LabelPress().list(3));
    }

    private static void listBytes(Checks c) {
        c.sentence("8", "1 bytes of the STRING it is WRITTEN as (0 if it is empty)");
        c.same("empty", 0, new LabelPress().list(1));
        LabelPress x = Checks.pressWith("(90)A");
        c.same("one", 3, x.list(1));
        x.fetch(0);
        c.same("empty again", 0, x.list(1));
        for (String text : new String[] {"(90)A(91)B", "(20)12(90)A", "(90)A(20)12", "(20)12(12)250101",
            "(90)\\((3201)123456(7010)z", TEN + OTHER_TEN}) {
            LabelPress y = Checks.pressWith(text);
            c.same("as written " + text, y.write(false), y.list(1));
        }
        c.same("twenty", 10 * 3 + 9 * 4 + 5 + 19, Checks.pressWith(TEN + OTHER_TEN).list(1));
    }

    private static void listSymbols(Checks c) {
        c.sentence("8", "2 how many symbols it takes, each made of as many as go");
        c.same("empty", 0, new LabelPress().list(2));
        // Two of 24 and 23 bytes and a byte 29: 48 in all.
        c.same("48 bytes", 1, Checks.pressWith("(91)" + "A".repeat(22) + "(92)" + "A".repeat(21)).list(2));
        c.same("49 bytes", 2, Checks.pressWith("(91)" + "A".repeat(22) + "(92)" + "A".repeat(22)).list(2));
        c.same("48 without a byte 29", 1,
            Checks.pressWith("(3201)123456(92)" + "A".repeat(36)).list(2));
        c.same("49 without a byte 29", 2,
            Checks.pressWith("(3201)123456(92)" + "A".repeat(37)).list(2));
        // The byte 29 ahead of the first one of a symbol is left out of it.
        c.same("twice 48", 2,
            Checks.pressWith("(91)" + "A".repeat(46) + "(92)" + "A".repeat(46)).list(2));
        c.same("a small one behind", 2, Checks.pressWith("(91)" + "A".repeat(46) + "(92)A(20)12").list(2));
        c.same("a small one ahead", 3, Checks.pressWith("(92)A(91)" + "A".repeat(46) + "(20)12").list(2));
        StringBuilder twenty = new StringBuilder();
        for (int ai = 91; ai <= 99; ai++) {
            twenty.append('(').append(ai).append(')').append("A".repeat(46));
        }
        c.same("nine", 9, Checks.pressWith(twenty.toString()).list(2));
        c.sentence("8", "NONE if one ELEMENT goes in none");
        String big = "(91)" + "A".repeat(47);
        c.same("alone", -1, Checks.pressWith(big).list(2));
        c.same("first", -1, Checks.pressWith(big + "(92)A").list(2));
        c.same("in the middle", -1, Checks.pressWith("(92)A" + big + "(93)A").list(2));
        c.same("last", -1, Checks.pressWith("(20)12" + big).list(2));
        c.same("of 92 bytes", -1, Checks.pressWith("(91)" + "A".repeat(90)).list(2));
        c.same("of 48 bytes", 1, Checks.pressWith("(91)" + "A".repeat(46)).list(2));
    }

    private static void elementOthers(Checks c) {
        c.sentence("9", "4 p (NONE without); NONE for others");
        LabelPress x = Checks.pressWith("(90)A(3200)123456");
        c.same("without", -1, x.element(0, 4));
        c.same("p 0", 0, x.element(1, 4));
        for (int far : CallBoundaries.FAR) {
            c.same("element of " + far, -1, x.element(0, far));
        }
        c.same("6", -1, x.element(0, 6));
        for (String without : "7030 7039 8005 410 00 20".split(" ")) {
            LabelPress y = new LabelPress();
            String value = without.startsWith("703") ? "276A" : without.equals("00") ? "0".repeat(18)
                : without.equals("410") ? "0".repeat(13) : without.equals("20") ? "12" : "123456";
            Checks.readInBrackets(y, "(" + without + ")" + value);
            c.same("no p of " + without, -1, y.element(0, 4));
        }
    }

    private static void noSuchElement(Checks c) {
        c.sentence("9", "IndexOutOfBoundsException: there is no such ELEMENT");
        allThrow(c, new LabelPress(), 0);
        allThrow(c, Checks.pressWith("(90)A"), 1);
        LabelPress x = Checks.pressWith(TEN + OTHER_TEN);
        c.same("the twentieth", 7002, x.element(19, 0));
        c.same("its letter", 'B', x.letter(19, 0));
        c.same("its part", 2, x.part(19, 0, 0));
        allThrow(c, x, 20);
        x.fetch(0);
        allThrow(c, x, 0);
        // The exception of k is ahead of what is told of j and of others.
        c.fails("k ahead of j", INDEX, () -> x.number(0, -1));
        c.fails("k ahead of j", INDEX, () -> x.date(0, 9, 9));
        c.fails("k ahead of i", INDEX, () -> x.letter(0, -1));
        c.fails("k ahead of what", INDEX, () -> x.element(0, 6));
        c.fails("k ahead of j and what", INDEX, () -> x.part(0, 9, 9));
    }

    private static void allThrow(Checks c, LabelPress x, int first) {
        for (int k : new int[] {first, first + 1, 20, 21, -1, Integer.MIN_VALUE, Integer.MAX_VALUE}) {
            c.fails("element " + k, INDEX, () -> x.element(k, 0));
            c.fails("letter " + k, INDEX, () -> x.letter(k, 0));
            c.fails("part " + k, INDEX, () -> x.part(k, 0, 0));
            c.fails("number " + k, INDEX, () -> x.number(k, 0));
            c.fails("date " + k, INDEX, () -> x.date(k, 0, 0));
            c.fails("symbol " + k, INDEX, () -> x.symbol(k));
        }
    }

    private static void noSuchLetter(Checks c) {
        c.sentence("10", "Byte i of its VALUE; NONE if there is none such");
        LabelPress x = Checks.pressWith("(90)A(91)" + "b".repeat(89) + "Z(92)\\(");
        c.same("first", 'A', x.letter(0, 0));
        c.same("behind", -1, x.letter(0, 1));
        c.same("the 90th", 'Z', x.letter(1, 89));
        c.same("the 91st", -1, x.letter(1, 90));
        c.same("one byte", -1, x.letter(2, 1));
        for (int far : CallBoundaries.FAR) {
            c.same("letter " + far, -1, x.letter(1, far));
        }
        // A shorter VALUE than the one that stood there has none of its bytes.
        Checks.readInBrackets(x, "(90)ABC(91)b");
        c.same("none of those that were there", -1, x.letter(1, 1));
    }

    private static void noSuchPart(Checks c) {
        c.sentence("11", "NONE for others, or if it has none such");
        LabelPress x = Checks.pressWith("(8008)25013112(8006)" + Checks.KEY14 + "0102");
        c.same("the last that it has", 6, x.part(0, 1, 1));
        for (int what = -1; what <= 3; what++) {
            c.same("one that is left out", -1, x.part(0, 2, what));
            c.same("another that is left out", -1, x.part(0, 3, what));
            c.same("a fifth one", -1, x.part(0, 4, what));
            c.same("one below", -1, x.part(0, -1, what));
            c.same("a fourth one", -1, x.part(1, 3, what));
        }
        for (int far : CallBoundaries.FAR) {
            c.same("part " + far, -1, x.part(0, far, 0));
            c.same("part of " + far, -1, x.part(0, 0, far));
        }
        c.same("others", -1, x.part(0, 0, 3));
        c.same("the third one", 16, x.part(1, 2, 1));
        LabelPress y = Checks.pressWith("(90)A");
        c.same("the only one", 1, y.part(0, 0, 2));
        c.same("no second one", -1, y.part(0, 1, 2));
    }

    private static void numbers(Checks c) {
        c.sentence("12", "The number that its PART j tells (n, k, d, t; at most 18 digits), NONE of x");
        LabelPress x = Checks.pressWith("(00)" + Checks.keyOf("9".repeat(17)) + "(8017)" + "0".repeat(18)
            + "(8001)" + "9".repeat(14) + "(30)00000001(20)00(91)12345(7003)0001010000");
        c.same("18 digits", Long.parseLong(Checks.keyOf("9".repeat(17))), x.number(0, 0));
        c.same("18 zeros", 0, x.number(1, 0));
        c.same("14 nines", 99999999999999L, x.number(2, 0));
        c.same("zeros ahead", 1, x.number(3, 0));
        c.same("two zeros", 0, x.number(4, 0));
        c.same("x of digits alone", -1, x.number(5, 0));
        c.same("a date with zeros ahead", 101, x.number(6, 0));
        c.same("midnight", 0, x.number(6, 1));
        x = Checks.pressWith("(8020)1(3900)999999999999999(422)000(242)999999(255)"
            + Checks.keyOf("999999999999") + "999999999999(7001)" + "9".repeat(13));
        c.same("15 nines", 999999999999999L, x.number(1, 0));
        c.same("three zeros", 0, x.number(2, 0));
        c.same("six nines", 999999, x.number(3, 0));
        c.same("twelve nines", 999999999999L, x.number(4, 1));
        c.same("thirteen nines", 9999999999999L, x.number(5, 0));
        // Numbers beyond those of 32 bits, on either side of their bounds.
        x = Checks.pressWith("(8020)1(3900)2147483647");
        c.same("2147483647", 2147483647L, x.number(1, 0));
        x = Checks.pressWith("(8020)1(3900)2147483648");
        c.same("2147483648", 2147483648L, x.number(1, 0));
        x = Checks.pressWith("(8020)1(3900)4294967296");
        c.same("4294967296", 4294967296L, x.number(1, 0));
    }

    private static void noSuchNumber(Checks c) {
        c.sentence("12", "NoSuchElementException: it has none such");
        LabelPress x = Checks.pressWith("(20)12(8008)2501311230(253)0000000000000");
        for (int j : new int[] {1, 2, 3, 4, 5, -1, Integer.MIN_VALUE, Integer.MAX_VALUE}) {
            c.fails("20 has no part " + j, NO_SUCH, () -> x.number(0, j));
        }
        c.same("the third one", 30, x.number(1, 2));
        c.fails("the fourth one is left out", NO_SUCH, () -> x.number(1, 3));
        c.fails("there is no fifth one", NO_SUCH, () -> x.number(1, 4));
        c.fails("the second one is left out", NO_SUCH, () -> x.number(2, 1));
        c.same("a second x", -1, Checks.pressWith("(253)0000000000000X").number(0, 1));
    }

    private static void noSuchDate(Checks c) {
        c.sentence("13", "NoSuchElementException: it has none such, or that is no DATE");
        LabelPress x = Checks.pressWith("(7007)250131(7003)2501312359(8008)25013112(20)12(90)A(253)"
            + "0000000000000X");
        for (int what = -1; what <= 3; what++) {
            int asked = what;
            c.fails("the second one is left out", NO_SUCH, () -> x.date(0, 1, asked));
            c.fails("a time", NO_SUCH, () -> x.date(1, 1, asked));
            c.fails("a number", NO_SUCH, () -> x.date(2, 1, asked));
            c.fails("a left out one", NO_SUCH, () -> x.date(2, 2, asked));
            c.fails("n", NO_SUCH, () -> x.date(3, 0, asked));
            c.fails("x", NO_SUCH, () -> x.date(4, 0, asked));
            c.fails("k", NO_SUCH, () -> x.date(5, 0, asked));
            c.fails("below", NO_SUCH, () -> x.date(0, -1, asked));
            c.fails("beyond", NO_SUCH, () -> x.date(0, 4, asked));
        }
        c.fails("far", NO_SUCH, () -> x.date(0, Integer.MIN_VALUE, 0));
        c.fails("far", NO_SUCH, () -> x.date(0, Integer.MAX_VALUE, 0));
        c.sentence("13", "NONE for others");
        for (int far : CallBoundaries.FAR) {
            c.same("date of " + far, -1, x.date(0, 0, far));
        }
        c.same("3", -1, x.date(0, 0, 3));
        c.same("2", 31, x.date(0, 0, 2));
    }

    private static void finding(Checks c) {
        c.sentence("14", "The least ELEMENT whose AI is that one, told by its number and its digits "
            + "(with p as it is); NONE");
        LabelPress x = Checks.pressWith("(00)" + "0".repeat(18) + "(90)A(240)A(3201)123456(7002)A");
        c.same("00", 0, x.find(0, 2));
        c.same("90", 1, x.find(90, 2));
        c.same("240", 2, x.find(240, 3));
        c.same("3201", 3, x.find(3201, 4));
        c.same("7002", 4, x.find(7002, 4));
        for (int p = 0; p <= 9; p++) {
            c.same("320" + p, p == 1 ? 3 : -1, x.find(3200 + p, 4));
        }
        c.same("320", -1, x.find(320, 3));
        for (int digits = -1; digits <= 5; digits++) {
            c.same("0 of " + digits, digits == 2 ? 0 : -1, x.find(0, digits));
            c.same("90 of " + digits, digits == 2 ? 1 : -1, x.find(90, digits));
            c.same("240 of " + digits, digits == 3 ? 2 : -1, x.find(240, digits));
            c.same("7002 of " + digits, digits == 4 ? 4 : -1, x.find(7002, digits));
        }
        for (int far : CallBoundaries.FAR) {
            c.same("AI " + far, -1, x.find(far, 2));
            c.same("digits " + far, -1, x.find(90, far));
        }
        c.same("91", -1, x.find(91, 2));
        x.fetch(0);
        c.same("of an empty list", -1, x.find(90, 2));
        c.same("of an empty list", -1, x.find(0, 2));
        LabelPress y = Checks.pressWith(TEN + OTHER_TEN);
        c.same("the twentieth", 19, y.find(7002, 4));
    }

    private static void writing(Checks c) {
        c.sentence("15", "OUT is the list WRITTEN IN BRACKETS, or as a STRING: how many bytes");
        LabelPress x = Checks.pressWith("(90)A");
        c.same("five", 5, x.write(true));
        c.same("three", 3, x.write(false));
        c.same("no more than these", -1, x.out(3));
        x.fetch(0);
        c.same("of an empty list", 0, x.write(true));
        c.same("none", -1, x.out(0));
        c.same("of an empty list", 0, x.write(false));
        c.sentence("Terms 3", "as a STRING (with a byte 29 only where one must stand)");
        Checks.readString(x, "2012~3201123456~12250101");
        c.same("none behind those that are FIXED", "2012320112345612250101", Checks.outOf(x, false));
        Checks.readString(x, "90A~2012~91B");
        c.same("one behind the others", "90A~201291B", Checks.outOf(x, false));
        Checks.readString(x, "91B");
        c.same("none behind the last one", "91B", Checks.outOf(x, false));
        longest(c);
    }

    /** ELEMENTS of as many bytes as they may have, each a ( : more than the tape has room for. */
    private static void longest(Checks c) {
        String[] ais = "90 240 241 250 251 400 401 403 7002 8004".split(" ");
        LabelPress x = new LabelPress();
        for (int half = 0; half < ais.length; half += 5) {
            StringBuilder text = new StringBuilder();
            for (int i = half; i < half + 5; i++) {
                text.append('(').append(ais[i]).append(')').append("\\(".repeat(30));
            }
            x.shelve(0);
            Checks.readInBrackets(x, text.toString());
            x.join(0);
        }
        for (int ai = 91; ai <= 99; ai++) {
            x.shelve(0);
            Checks.readInBrackets(x, "(" + ai + ")" + "\\(".repeat(90));
            x.join(0);
        }
        c.same("nineteen", 19, x.list(0));
        int digits = 2 + 3 * 7 + 4 * 2 + 2 * 9;
        int bytes = 10 * 30 + 9 * 90;
        c.same("in brackets", digits + 2 * 19 + 2 * bytes, x.write(true));
        c.same("the last byte", '(', x.out(digits + 2 * 19 + 2 * bytes - 1));
        c.same("none behind", -1, x.out(digits + 2 * 19 + 2 * bytes));
        c.same("as a string", digits + 18 + bytes, x.write(false));
        c.same("as the list tells", digits + 18 + bytes, x.list(1));
    }

    private static void arranging(Checks c) {
        c.sentence("17", "The list is ARRANGED: how many ELEMENTS stand elsewhere then");
        LabelPress x = new LabelPress();
        c.same("of none", 0, x.arrange());
        arranged(c, 0, "(90)A", "(90)A");
        arranged(c, 0, "(20)12", "(20)12");
        arranged(c, 0, "(20)12(12)250101", "(20)12(12)250101");
        arranged(c, 0, "(91)A(90)A", "(91)A(90)A");
        arranged(c, 0, "(20)12(90)A", "(20)12(90)A");
        arranged(c, 2, "(90)A(20)12", "(20)12(90)A");
        arranged(c, 3, "(90)A(91)B(20)12", "(20)12(90)A(91)B");
        arranged(c, 4, "(90)A(20)12(91)B(12)250101", "(20)12(12)250101(90)A(91)B");
        arranged(c, 2, "(20)12(90)A(12)250101(91)B", "(20)12(12)250101(90)A(91)B");
        arranged(c, 3, "(20)12(90)A(91)B(12)250101(92)C", "(20)12(12)250101(90)A(91)B(92)C");
        arranged(c, 20, TEN + OTHER_TEN.substring(0, OTHER_TEN.length() - 7) + "(20)12",
            "(20)12" + TEN + OTHER_TEN.substring(0, OTHER_TEN.length() - 7));
    }

    private static void arranged(Checks c, int due, String from, String to) {
        LabelPress x = Checks.pressWith(from);
        c.same("arranged " + from, due, x.arrange());
        c.same("arranged", to, Checks.outOf(x, true));
        c.same("arranged again " + from, 0, x.arrange());
    }

    private static void shelving(Checks c) {
        c.sentence("18", "A shelf keeps the list as it is: how many ELEMENTS");
        LabelPress x = Checks.pressWith(TEN + OTHER_TEN);
        c.same("twenty", 20, x.shelve(0));
        c.same("the last shelf", 20, x.shelve(7));
        x.fetch(1);
        c.same("none", 0, x.shelve(7));
        c.yes("it keeps none then", x.same(7));
        c.same("an empty list stays", 0, x.fetch(7));
        c.same("the other shelf stays", 20, x.fetch(0));
        c.same("its last one", 'B', x.letter(19, 0));
        for (int shelf : new int[] {-1, 8, 9, Integer.MIN_VALUE, Integer.MAX_VALUE}) {
            c.fails("shelve " + shelf, INDEX, () -> x.shelve(shelf));
        }
        // Not arranged, with the DATES as they were read, and no byte of what it kept before.
        LabelPress y = Checks.pressWith("(90)ABC(20)12(7006)750101");
        y.shelve(3);
        y.arrange();
        Checks.readInBrackets(y, "(90)A");
        y.clock(2150);
        c.same("three", 3, y.fetch(3));
        c.same("as it was", "(90)ABC(20)12(7006)750101", Checks.outOf(y, true));
        c.same("as it was read", 2075, y.date(2, 0, 0));
        Checks.readInBrackets(y, "(90)A");
        y.shelve(3);
        y.fetch(3);
        c.same("no more than that", "(90)A", Checks.outOf(y, true));
    }

    private static void fetching(Checks c) {
        c.sentence("19", "The list is what a shelf keeps: how many ELEMENTS");
        LabelPress x = Checks.pressWith("(90)A(91)B");
        x.shelve(0);
        c.same("none", 0, x.fetch(7));
        c.same("list", 0, x.list(0));
        c.same("two", 2, x.fetch(0));
        c.same("again", 2, x.fetch(0));
        x.fetch(7);
        c.same("the shelf keeps it", 2, x.fetch(0));
        for (int shelf : new int[] {-1, 8, 9, Integer.MIN_VALUE, Integer.MAX_VALUE}) {
            c.fails("fetch " + shelf, INDEX, () -> x.fetch(shelf));
        }
        c.same("the list stays then", 2, x.list(0));
        for (int shelf = 0; shelf < 8; shelf++) {
            Checks.readInBrackets(x, "(9" + shelf + ")A");
            x.shelve(shelf);
        }
        for (int shelf = 0; shelf < 8; shelf++) {
            x.fetch(shelf);
            c.same("each keeps its own", 90 + shelf, x.element(0, 0));
        }
    }

    private static void comparing(Checks c) {
        c.sentence("20", "the same ELEMENTS (AI, VALUE) in the same order");
        LabelPress x = new LabelPress();
        c.yes("empty and empty", x.same(7));
        Checks.readInBrackets(x, "(240)AB(91)B(3201)123456");
        x.shelve(7);
        c.yes("the same", x.same(7));
        c.no("and none", x.same(6));
        for (String other : ("(240)AB(91)B|(240)AB(91)B(3201)123456(92)C|(91)B(240)AB(3201)123456|"
            + "(240)AC(91)B(3201)123456|(240)A(91)B(3201)123456|(240)ABC(91)B(3201)123456|"
            + "(241)AB(91)B(3201)123456|(240)AB(91)B(3202)123456|(240)AB(91)B(3211)123456|"
            + "(240)AB(91)B(3201)123457|(240)AB(91)B(3201)023456|(240)ab(91)B(3201)123456").split("\\|")) {
            c.yes("read " + other, Checks.readInBrackets(x, other) > 0);
            c.no("another " + other, x.same(7));
        }
        x.fetch(6);
        c.no("none", x.same(7));
        x.fetch(7);
        c.yes("fetched", x.same(7));
        x.arrange();
        c.no("arranged", x.same(7));
        for (int shelf : new int[] {-1, 8, 9, Integer.MIN_VALUE, Integer.MAX_VALUE}) {
            c.fails("same " + shelf, INDEX, () -> x.same(shelf) ? 1 : 0);
        }
    }

    private static void joinTooMany(Checks c) {
        c.sentence("21", "NONE, and it stays: there would be more than 20");
        LabelPress x = Checks.pressWith(OTHER_TEN);
        x.shelve(0);
        Checks.readInBrackets(x, OTHER_TEN + "(8002)B");
        x.shelve(1);
        Checks.readInBrackets(x, "(8004)B");
        x.shelve(2);
        Checks.readInBrackets(x, TEN);
        c.same("eleven and ten", -1, x.join(1));
        c.same("it stays", TEN, Checks.outOf(x, true));
        c.same("ten and ten", 20, x.join(0));
        c.same("twenty", TEN + OTHER_TEN, Checks.outOf(x, true));
        c.same("twenty and one", -1, x.join(2));
        c.same("it stays", TEN + OTHER_TEN, Checks.outOf(x, true));
        c.same("twenty and none", 20, x.join(7));
        x.shelve(3);
        x.fetch(7);
        c.same("none and twenty", 20, x.join(3));
        c.same("twenty and twenty", -1, x.join(3));
        x.fetch(2);
        c.same("one and twenty", -1, x.join(3));
        c.same("it stays", "(8004)B", Checks.outOf(x, true));
        x.fetch(7);
        c.same("none and none", 0, x.join(7));
        c.same("the shelf stays", 10, x.fetch(0));
        for (int shelf : new int[] {-1, 8, 9, Integer.MIN_VALUE, Integer.MAX_VALUE}) {
            c.fails("join " + shelf, INDEX, () -> x.join(shelf));
        }
    }

    private static void joins(Checks c, int due, String list, String shelf) {
        LabelPress x = Checks.pressWith(shelf);
        x.shelve(4);
        Checks.readInBrackets(x, list);
        x.shelve(5);
        c.same(list + " joined with " + shelf, due, x.join(4));
        c.same("it stays: " + list, due == -1 ? 1 : 0, x.same(5) ? 1 : 0);
    }

    private static void joinRepeated(Checks c) {
        c.sentence("21", "one has an AI that another one has (as in 7)");
        joins(c, -1, "(90)A", "(90)A");
        joins(c, -1, "(90)A", "(90)B");
        joins(c, -1, "(90)A(91)A", "(92)A(90)A");
        joins(c, -1, TEN, "(240)A(99)A");
        joins(c, -1, "(3201)123456", "(3205)123456");
        joins(c, -1, "(3201)123456", "(3201)123456");
        joins(c, 2, "(3201)123456", "(3211)123456");
        joins(c, 2, "(90)A", "(91)A");
        joins(c, 2, "(7030)276A", "(7031)276A");
    }

    private static void joinWants(Checks c) {
        c.sentence("21", "or a WANT would not be met");
        String content = "(02)" + Checks.KEY14 + "(37)1";
        joins(c, -1, KEY, content);
        joins(c, -1, content, KEY);
        joins(c, -1, "(420)A", "(421)276A");
        joins(c, -1, "(421)276A", "(420)A");
        joins(c, -1, "(8018)000000000000000000", "(8017)000000000000000000");
        joins(c, 3, KEY + "(10)A", "(90)A");
        joins(c, 3, content, "(90)A");
        joins(c, 3, "(90)A", KEY + "(10)A");
        // By a scan an ELEMENT may come whose WANT is not met.
        LabelPress x = new LabelPress();
        Checks.draw(x, Checks.modulesOf(Checks.framed(105, 37, 12)));
        c.same("37 alone", 1, x.scan());
        x.shelve(0);
        Checks.readInBrackets(x, "(90)A");
        c.same("a WANT of the shelf", -1, x.join(0));
        c.same("it stays", "(90)A", Checks.outOf(x, true));
        x.shelve(1);
        x.fetch(0);
        c.same("a WANT of the list", -1, x.join(1));
        c.same("it stays", "(37)12", Checks.outOf(x, true));
        Checks.draw(x, Checks.modulesOf(Checks.framed(105, 2, 4, 1, 23, 45, 12, 34, 56)));
        c.same("02 alone", 1, x.scan());
        c.same("each meets the other one's", 2, x.join(0));
        c.same("they go together", "(02)" + Checks.KEY14 + "(37)12", Checks.outOf(x, true));
    }

    private static void joinBehind(Checks c) {
        c.sentence("21", "A shelf's ELEMENTS come behind those of the list: how many it has then");
        LabelPress x = Checks.pressWith("(20)12(91)B");
        x.shelve(6);
        Checks.readInBrackets(x, "(90)A(12)250101");
        c.same("four", 4, x.join(6));
        c.same("behind", "(90)A(12)250101(20)12(91)B", Checks.outOf(x, true));
        c.same("the shelf keeps its own", 2, x.fetch(6));
        c.same("as they were", "(20)12(91)B", Checks.outOf(x, true));
        x.fetch(7);
        c.same("none and two", 2, x.join(6));
        c.same("two and none", 2, x.join(7));
        c.same("the list", "(20)12(91)B", Checks.outOf(x, true));
    }
}
