/** Promises 8, 15 and 17 to 21: the list, WRITTEN, ARRANGED, kept on SHELVES, joined. */
final class ListTests {
    private static final Class<?> INDEX = IndexOutOfBoundsException.class;
    private static final String KEY = "(01)" + Checks.KEY14;

    static void run(Checks c) {
        list(c);
        symbols(c);
        write(c);
        arrange(c);
        shelves(c);
        same(c);
        join(c);
        joinRefused(c);
    }

    private static void list(Checks c) {
        LabelPress x = new LabelPress();
        c.same("8 empty", 0, x.list(0));
        c.same("8 empty", 0, x.list(1));
        c.same("8 empty", 0, x.list(2));
        c.same("8 others", -1, x.list(3));
        c.same("8 others", -1, x.list(-1));
        Checks.readString(x, "0104012345123456~10AB~2012~90X");
        c.same("8 elements", 4, x.list(0));
        c.same("8 bytes, with bytes 29 where they must stand", 16 + 4 + 1 + 4 + 3, x.list(1));
        c.same("8 symbols", 1, x.list(2));
        c.same("8 bytes behind one that is not fixed", 7, Checks.pressWith("(90)A(91)B").list(1));
    }

    private static void symbols(Checks c) {
        c.same("8 48 bytes", 1, Checks.pressWith("(99)" + "A".repeat(46)).list(2));
        c.same("8 49 bytes", -1, Checks.pressWith("(99)" + "A".repeat(47)).list(2));
        c.same("8 48 with a separator", 1, Checks.pressWith("(90)A(99)" + "A".repeat(42)).list(2));
        c.same("8 49 with a separator", 2, Checks.pressWith("(90)A(99)" + "A".repeat(43)).list(2));
        c.same("8 48 without one", 1, Checks.pressWith("(20)12(99)" + "A".repeat(42)).list(2));
        c.same("8 49 without one", 2, Checks.pressWith("(20)12(99)" + "A".repeat(43)).list(2));
        c.same("8 the last one goes in none", -1,
            Checks.pressWith("(20)12(99)" + "A".repeat(47)).list(2));
        c.same("8 the first one goes in none", -1,
            Checks.pressWith("(99)" + "A".repeat(47) + "(20)12").list(2));
        c.same("8 three", 3, Checks.pressWith("(99)" + "A".repeat(46) + "(98)" + "A".repeat(46)
            + "(97)A").list(2));
    }

    private static void write(Checks c) {
        LabelPress x = new LabelPress();
        c.same("15 empty", 0, x.write(true));
        c.same("15 empty", 0, x.write(false));
        Checks.readInBrackets(x, KEY + "(10)A\\(B(3103)001250(90)\\((235)X");
        c.same("15 in brackets", KEY + "(10)A\\(B(3103)001250(90)\\((235)X", Checks.outOf(x, true));
        c.same("15 as a string", "01" + Checks.KEY14 + "10A(B~310300125090(~235X",
            Checks.outOf(x, false));
        c.same("15 how many", 40, x.write(false));
        Checks.readString(x, "2012~90A");
        c.same("15 only where one must stand", "201290A", Checks.outOf(x, false));
        Checks.readInBrackets(x, "(00)106141411928374657(7030)276A");
        c.same("15 digits of the AI", "(00)106141411928374657(7030)276A", Checks.outOf(x, true));
        Checks.readInBrackets(x, "(99)" + "\\(".repeat(90));
        c.same("15 all its bytes with a \\", 184, x.write(true));
        c.same("15 last", '(', x.out(183));
    }

    private static void arrange(Checks c) {
        LabelPress x = new LabelPress();
        c.same("17 empty", 0, x.arrange());
        Checks.readInBrackets(x, "(90)A" + KEY + "(10)B(3103)001250(91)C");
        c.same("17 moved", 4, x.arrange());
        c.same("17 arranged", KEY + "(3103)001250(90)A(10)B(91)C", Checks.outOf(x, true));
        c.same("17 nothing moves again", 0, x.arrange());
        Checks.readInBrackets(x, "(90)A(20)12");
        c.same("17 both", 2, x.arrange());
        c.same("17 bytes", 4 + 3, x.list(1));
        c.same("17 letters go along", 'A', x.letter(1, 0));
        Checks.readInBrackets(x, "(20)12(410)4012345123456(90)A");
        c.same("17 none", 0, x.arrange());
        Checks.readInBrackets(x, "(402)40123450000000016(3952)123456(12)250101");
        c.same("17 402 and 395 are not fixed", 3, x.arrange());
        c.same("17 order", "(12)250101(402)40123450000000016(3952)123456", Checks.outOf(x, true));
    }

    private static void shelves(Checks c) {
        LabelPress x = Checks.pressWith("(90)A(91)B");
        for (int shelf = 0; shelf < 8; shelf++) {
            c.same("18 shelve", 2, x.shelve(shelf));
        }
        c.same("18 the list stays", 2, x.list(0));
        for (int shelf : new int[] {-1, 8, Integer.MAX_VALUE, Integer.MIN_VALUE}) {
            c.fails("18 no such shelf", INDEX, () -> x.shelve(shelf));
            c.fails("19 no such shelf", INDEX, () -> x.fetch(shelf));
            c.fails("20 no such shelf", INDEX, () -> x.same(shelf) ? 1 : 0);
            c.fails("21 no such shelf", INDEX, () -> x.join(shelf));
        }
        Checks.readInBrackets(x, "(20)12(90)C(92)D");
        c.same("18 as it is", 3, x.shelve(7));
        x.arrange();
        c.same("19 fetch", 2, x.fetch(0));
        c.same("19 list", "(90)A(91)B", Checks.outOf(x, true));
        Checks.readInBrackets(x, "(99)Z");
        c.same("19 the shelf stays", 2, x.fetch(0));
        c.same("19 its bytes stay", "(90)A(91)B", Checks.outOf(x, true));
        c.same("19 fetch another", 3, x.fetch(7));
        c.same("19 another", "(20)12(90)C(92)D", Checks.outOf(x, true));
        LabelPress y = Checks.pressWith("(90)A");
        c.same("19 an empty one", 0, y.fetch(5));
        c.same("19 the list is empty then", 0, y.list(0));
        c.same("18 an empty list", 0, y.shelve(0));
        c.fails("19 no element", INDEX, () -> y.element(0, 0));
    }

    private static void same(Checks c) {
        LabelPress x = Checks.pressWith("(90)A(91)B");
        c.no("20 with an empty one", x.same(0));
        x.shelve(0);
        c.yes("20 the same", x.same(0));
        Checks.readInBrackets(x, "(91)B(90)A");
        c.no("20 another order", x.same(0));
        Checks.readInBrackets(x, "(90)A(91)C");
        c.no("20 another value", x.same(0));
        Checks.readInBrackets(x, "(90)A(91)BB");
        c.no("20 a longer value", x.same(0));
        Checks.readInBrackets(x, "(90)A(92)B");
        c.no("20 another AI", x.same(0));
        Checks.readInBrackets(x, "(90)A");
        c.no("20 fewer", x.same(0));
        Checks.readInBrackets(x, "(90)A(91)B(92)C");
        c.no("20 more", x.same(0));
        Checks.readString(x, "90A~91B");
        c.yes("20 the same again", x.same(0));
        Checks.readInBrackets(x, "(7006)000101");
        x.shelve(1);
        x.clock(2100);
        Checks.readInBrackets(x, "(7006)000101");
        c.yes("20 the year meant is not asked", x.same(1));
        Checks.readInBrackets(x, "(3201)123456");
        x.shelve(2);
        Checks.readInBrackets(x, "(3202)123456");
        c.no("20 another p", x.same(2));
    }

    private static void join(Checks c) {
        LabelPress x = Checks.pressWith(KEY + "(10)A");
        x.shelve(0);
        Checks.readInBrackets(x, "(90)B(20)12");
        x.shelve(1);
        c.same("21 joined", 4, x.join(0));
        c.same("21 behind", "(90)B(20)12" + KEY + "(10)A", Checks.outOf(x, true));
        c.same("21 the shelf stays", 2, x.fetch(0));
        c.same("21 with an empty one", 2, x.join(5));
        Checks.readInBrackets(x, "(20)12");
        x.shelve(2);
        LabelPress y = new LabelPress();
        c.same("21 empty with empty", 0, y.join(0));
        // What wants another one may come by a scan, and meets it here.
        y = new LabelPress();
        Checks.draw(y, Checks.modulesOf(Checks.framed(104, 17, 16, 33)));
        c.same("21 scanned", 1, y.scan());
        y.shelve(0);
        c.same("21 a want of the list is not met", -1, y.join(1));
        c.same("21 it stays", "(10)A", Checks.outOf(y, true));
        Checks.readInBrackets(y, KEY);
        c.same("21 a want of the shelf is met", 2, y.join(0));
    }

    private static void joinRefused(Checks c) {
        LabelPress x = Checks.pressWith("(90)A(3201)123456");
        x.shelve(0);
        c.same("21 an AI twice", -1, x.join(0));
        Checks.readInBrackets(x, "(91)A(3202)123456");
        c.same("21 an AI with another p", -1, x.join(0));
        c.same("21 it stays", "(91)A(3202)123456", Checks.outOf(x, true));
        Checks.readInBrackets(x, "(02)" + Checks.KEY14 + "(37)1");
        x.shelve(1);
        Checks.readInBrackets(x, KEY);
        c.same("21 01 wants none of 02", -1, x.join(1));
        Checks.readInBrackets(x, "(420)A");
        x.shelve(2);
        Checks.readInBrackets(x, "(421)276A");
        c.same("21 420 wants none of 421", -1, x.join(2));
        StringBuilder many = new StringBuilder();
        for (int ai = 91; ai <= 99; ai++) {
            many.append('(').append(ai).append(")A");
        }
        Checks.readInBrackets(x, many + "(90)A(240)A(241)A");
        x.shelve(3);
        Checks.readInBrackets(x, "(243)A(250)A(251)A(254)A(400)A(401)A(403)A(7002)A(8002)A");
        c.same("21 more than 20", -1, x.join(3));
        c.same("21 it stays", 9, x.list(0));
        Checks.readInBrackets(x, "(243)A(250)A(251)A(254)A(400)A(401)A(403)A(7002)A");
        c.same("21 twenty", 20, x.join(3));
        c.same("21 the last one", 19, x.find(241, 3));
    }
}
