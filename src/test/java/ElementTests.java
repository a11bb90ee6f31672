import java.util.NoSuchElementException;

/** Promises 9 to 14: ELEMENTS, their bytes, PARTS, numbers and DATES, and finding them. */
final class ElementTests {
    private static final Class<?> INDEX = IndexOutOfBoundsException.class;
    private static final Class<?> NO_SUCH = NoSuchElementException.class;

    static void run(Checks c) {
        element(c);
        letter(c);
        part(c);
        number(c);
        date(c);
        find(c);
    }

    private static LabelPress press() {
        return Checks.pressWith("(01)" + Checks.KEY14 + "(3103)001250(10)A\\(b(253)4012345123456X/1"
            + "(7003)2402292359(8008)2502001230");
    }

    private static void noSuchElement(Checks c, String what, Checks.Call call) {
        c.fails(what, INDEX, call);
    }

    private static void element(Checks c) {
        LabelPress x = press();
        c.same("9 AI", 1, x.element(0, 0));
        c.same("9 digits", 2, x.element(0, 1));
        c.same("9 bytes", 14, x.element(0, 2));
        c.same("9 parts", 1, x.element(0, 3));
        c.same("9 p", -1, x.element(0, 4));
        c.same("9 fixed", 1, x.element(0, 5));
        c.same("9 others", -1, x.element(0, 6));
        c.same("9 others", -1, x.element(0, -1));
        c.same("9 AI with p", 3103, x.element(1, 0));
        c.same("9 digits with p", 4, x.element(1, 1));
        c.same("9 p", 3, x.element(1, 4));
        c.same("9 fixed", 1, x.element(1, 5));
        c.same("9 bytes without a \\", 3, x.element(2, 2));
        c.same("9 not fixed", 0, x.element(2, 5));
        c.same("9 optional parts that it has", 2, x.element(3, 3));
        c.same("9 optional parts that it has", 3, x.element(5, 3));
        noSuchElement(c, "9 below", () -> x.element(-1, 0));
        noSuchElement(c, "9 beyond", () -> x.element(6, 0));
        noSuchElement(c, "9 beyond, of others", () -> x.element(6, 9));
        noSuchElement(c, "9 far", () -> x.element(Integer.MAX_VALUE, 0));
        noSuchElement(c, "9 of an empty list", () -> new LabelPress().element(0, 0));
    }

    private static void letter(Checks c) {
        LabelPress x = press();
        c.same("10 first", 'A', x.letter(2, 0));
        c.same("10 a bracket", '(', x.letter(2, 1));
        c.same("10 last", 'b', x.letter(2, 2));
        c.same("10 behind", -1, x.letter(2, 3));
        c.same("10 ahead", -1, x.letter(2, -1));
        c.same("10 far", -1, x.letter(2, Integer.MIN_VALUE));
        noSuchElement(c, "10 beyond", () -> x.letter(6, 0));
        noSuchElement(c, "10 below", () -> x.letter(-1, 0));
    }

    private static void part(Checks c) {
        LabelPress x = press();
        c.same("11 k", 3, x.part(3, 0, 0));
        c.same("11 at", 0, x.part(3, 0, 1));
        c.same("11 bytes", 13, x.part(3, 0, 2));
        c.same("11 x", 2, x.part(3, 1, 0));
        c.same("11 at", 13, x.part(3, 1, 1));
        c.same("11 bytes", 3, x.part(3, 1, 2));
        c.same("11 n", 1, x.part(1, 0, 0));
        c.same("11 d", 4, x.part(4, 0, 0));
        c.same("11 t", 5, x.part(4, 1, 0));
        c.same("11 at", 6, x.part(4, 1, 1));
        c.same("11 bytes", 4, x.part(4, 1, 2));
        c.same("11 last one left out", -1, x.part(5, 3, 0));
        c.same("11 last one there", 8, x.part(5, 2, 1));
        c.same("11 others", -1, x.part(4, 1, 3));
        c.same("11 others", -1, x.part(4, 1, -1));
        c.same("11 none such", -1, x.part(0, 1, 0));
        c.same("11 none such", -1, x.part(0, -1, 0));
        c.same("11 none such", -1, x.part(0, Integer.MAX_VALUE, 2));
        noSuchElement(c, "11 beyond", () -> x.part(6, 0, 0));
        noSuchElement(c, "11 below", () -> x.part(-1, 0, 0));
    }

    private static void number(Checks c) {
        LabelPress x = press();
        c.same("12 k", 4012345123456L, x.number(0, 0));
        c.same("12 n", 1250, x.number(1, 0));
        c.same("12 x", -1, x.number(2, 0));
        c.same("12 x", -1, x.number(3, 1));
        c.same("12 d", 240229, x.number(4, 0));
        c.same("12 t", 2359, x.number(4, 1));
        c.same("12 n behind", 30, x.number(5, 2));
        c.fails("12 none such", NO_SUCH, () -> x.number(5, 3));
        c.fails("12 none such", NO_SUCH, () -> x.number(2, 1));
        c.fails("12 none such", NO_SUCH, () -> x.number(0, -1));
        noSuchElement(c, "12 beyond", () -> x.number(6, 0));
        noSuchElement(c, "12 beyond, none such", () -> x.number(6, 9));
        noSuchElement(c, "12 below", () -> x.number(-1, 0));
        LabelPress y = Checks.pressWith("(00)999999999999999995");
        c.same("12 18 digits", 999999999999999995L, y.number(0, 0));
        y = Checks.pressWith("(255)4012345123456123456789012(3909)123456789012345");
        c.same("12 15 digits", 123456789012345L, y.number(1, 0));
        c.same("12 12 digits", 123456789012L, y.number(0, 1));
    }

    private static void date(Checks c) {
        LabelPress x = press();
        c.same("13 year", 2024, x.date(4, 0, 0));
        c.same("13 month", 2, x.date(4, 0, 1));
        c.same("13 day", 29, x.date(4, 0, 2));
        c.same("13 others", -1, x.date(4, 0, 3));
        c.same("13 others", -1, x.date(4, 0, -1));
        c.same("13 day 00", 28, x.date(5, 0, 2));
        c.fails("13 a time is none", NO_SUCH, () -> x.date(4, 1, 0));
        c.fails("13 a number is none", NO_SUCH, () -> x.date(5, 1, 0));
        c.fails("13 a key is none, of others", NO_SUCH, () -> x.date(0, 0, 9));
        c.fails("13 none such", NO_SUCH, () -> x.date(4, 2, 0));
        c.fails("13 none such", NO_SUCH, () -> x.date(4, -1, 0));
        noSuchElement(c, "13 beyond", () -> x.date(6, 0, 0));
        noSuchElement(c, "13 below", () -> x.date(-1, 0, 0));
        datesStay(c);
    }

    private static void datesStay(Checks c) {
        LabelPress x = new LabelPress();
        Checks.readInBrackets(x, "(7007)000200750400");
        x.shelve(3);
        x.clock(2100);
        c.same("13 as it was read", 29, x.date(0, 0, 2));
        c.same("13 second date", 2075, x.date(0, 1, 0));
        c.same("13 second date", 4, x.date(0, 1, 1));
        c.same("13 second date", 30, x.date(0, 1, 2));
        Checks.readInBrackets(x, "(7007)000200");
        c.same("13 read later", 2100, x.date(0, 0, 0));
        c.same("13 read later", 28, x.date(0, 0, 2));
        x.fetch(3);
        c.same("13 kept on a shelf", 2000, x.date(0, 0, 0));
        c.same("13 kept on a shelf", 29, x.date(0, 0, 2));
        Checks.readInBrackets(x, "(12)011231");
        x.join(3);
        c.same("13 joined", 2101, x.date(0, 0, 0));
        c.same("13 joined", 2000, x.date(1, 0, 0));
    }

    private static void find(Checks c) {
        LabelPress x = press();
        c.same("14 first", 0, x.find(1, 2));
        c.same("14 with p", 1, x.find(3103, 4));
        c.same("14 another p", -1, x.find(3102, 4));
        c.same("14 without p", -1, x.find(310, 3));
        c.same("14 last", 5, x.find(8008, 4));
        c.same("14 other digits", -1, x.find(1, 3));
        c.same("14 other digits", -1, x.find(10, 1));
        c.same("14 none", -1, x.find(90, 2));
        c.same("14 none", -1, x.find(-1, 2));
        c.same("14 empty", -1, new LabelPress().find(0, 2));
        c.same("14 00", 0, Checks.pressWith("(00)106141411928374657").find(0, 2));
    }
}
