/** Terms, 1: the table's bounds, a test for each sentence that names one. */
final class TableBoundaries {
    private static final String LEAP_DAYS = "312931303130313130313031";
    private static final String DAYS = "312831303130313130313031";

    static void run(Checks c) {
        signs(c);
        digitsOfTheirNumber(c);
        oneToSoManyDigits(c);
        oneToSoManySigns(c);
        keys(c);
        months(c);
        days(c);
        times(c);
        leftOut(c);
        points(c);
        pointBeyondDigits(c);
        fixed(c);
        checks(c);
        centuries(c);
        lastDays(c);
    }

    private static void signs(Checks c) {
        c.sentence("Terms 1", "SIGNS are 82 bytes");
        String marks = "!\"%&'()*+,-./:;<=>?_";
        int signs = 0;
        for (int b = 0; b < 256; b++) {
            boolean sign = b >= '0' && b <= '9' || b >= 'A' && b <= 'Z' || b >= 'a' && b <= 'z'
                || marks.indexOf(b) >= 0;
            signs += sign ? 1 : 0;
            String one = "" + (char) b;
            if (b == 29) {
                c.faultyString(3, 2, "90~");
            } else {
                LabelPress x = new LabelPress();
                c.faulty(sign ? 0 : 4, sign ? -1 : 2, x, "90" + one, false);
                c.faulty(sign ? 0 : 4, sign ? -1 : 3, x, "90Z" + one, false);
            }
            if (b == '(') {
                c.faulty(3, 4, "(90)" + one);
            } else {
                c.faulty(sign ? 0 : 4, sign ? -1 : 4, "(90)" + one);
            }
            boolean digit = b >= '0' && b <= '9';
            if (b != '(') {
                c.faulty(digit ? 0 : 4, digit ? -1 : 4, "(30)" + one);
            }
        }
        c.same("signs", 82, signs);
    }

    private static void digitsOfTheirNumber(Checks c) {
        c.sentence("Terms 1", "nK: K digits");
        for (String line : "20 2,422 3,8005 6,7001 13,8001 14".split(",")) {
            String ai = line.split(" ")[0];
            int k = Integer.parseInt(line.split(" ")[1]);
            int at = ai.length() + 2;
            c.faulty(3, at, "(" + ai + ")");
            c.faulty(3, at + k - 1, "(" + ai + ")" + "1".repeat(k - 1));
            c.faulty(0, -1, "(" + ai + ")" + "1".repeat(k));
            c.faulty(3, at + k, "(" + ai + ")" + "1".repeat(k + 1));
            c.faulty(4, at + k - 1, "(" + ai + ")" + "1".repeat(k - 1) + "A");
        }
    }

    private static void oneToSoManyDigits(Checks c) {
        c.sentence("Terms 1", "n..K: 1 to K digits");
        for (String line : "30 8,242 6,7004 4,8011 12,8019 10".split(",")) {
            bounds(c, line.split(" ")[0], Integer.parseInt(line.split(" ")[1]), "7");
        }
    }

    private static void oneToSoManySigns(Checks c) {
        c.sentence("Terms 1", "x..K: 1 to K SIGNS");
        for (String line : ("22 20,90 30,91 90,235 28,427 3,7005 12,7008 3,7009 10,7010 2,8007 34,"
            + "8013 25").split(",")) {
            bounds(c, line.split(" ")[0], Integer.parseInt(line.split(" ")[1]), "z");
        }
    }

    private static void bounds(Checks c, String ai, int most, String sign) {
        int at = ai.length() + 2;
        c.faulty(3, at, "(" + ai + ")");
        c.faulty(0, -1, "(" + ai + ")" + sign);
        c.faulty(0, -1, "(" + ai + ")" + sign.repeat(most - 1));
        c.faulty(0, -1, "(" + ai + ")" + sign.repeat(most));
        c.faulty(3, at + most, "(" + ai + ")" + sign.repeat(most + 1));
    }

    private static void keys(Checks c) {
        c.sentence("Terms 1", "kK: a KEY: K digits, the last of which is the CHECK of those ahead of it");
        String digits = "95012345678903214";
        for (String line : "00 18,01 14,253 13,255 13,402 17,417 13,8003 14,8017 18".split(",")) {
            String ai = line.split(" ")[0];
            int k = Integer.parseInt(line.split(" ")[1]);
            String right = Checks.keyOf(digits.substring(0, k - 1));
            int at = ai.length() + 2;
            for (char last = '0'; last <= '9'; last++) {
                boolean good = last == right.charAt(k - 1);
                c.faulty(good ? 0 : 5, good ? -1 : at + k - 1,
                    "(" + ai + ")" + right.substring(0, k - 1) + last);
            }
            c.faulty(3, at + k - 1, "(" + ai + ")" + right.substring(0, k - 1));
            c.faulty(0, -1, "(" + ai + ")" + "0".repeat(k));
        }
    }

    private static void months(Checks c) {
        c.sentence("Terms 1", "d: a DATE: six digits, year, month 01 .. 12");
        for (int month = 0; month < 100; month++) {
            boolean good = month >= 1 && month <= 12;
            String date = String.format("25%02d01", month);
            c.faulty(good ? 0 : 6, good ? -1 : 6, "(7006)" + date);
            c.faulty(good ? 0 : 6, good ? -1 : 4, "(12)" + date);
        }
    }

    private static int lastDay(boolean leap, int month) {
        String days = leap ? LEAP_DAYS : DAYS;
        return Integer.parseInt(days.substring(2 * month - 2, 2 * month));
    }

    private static void days(Checks c) {
        c.sentence("Terms 1", "day 00 .. the month's last one (of the year meant)");
        // The clock's year, the DATE's two digits, whether the year that it means is a leap one.
        int[][] years = {{2025, 24, 1}, {2025, 25, 0}, {2025, 0, 1}, {2025, 76, 1}, {1950, 0, 1},
            {1950, 1, 0}, {2060, 0, 0}, {2050, 0, 0}, {2049, 0, 1}, {2100, 0, 0}, {2149, 0, 0},
            {2150, 0, 0}, {2200, 0, 0}, {2200, 96, 1}, {2100, 4, 1}};
        for (int[] year : years) {
            LabelPress x = new LabelPress();
            x.clock(year[0]);
            for (int month = 1; month <= 12; month++) {
                String head = String.format("(7006)%02d%02d", year[1], month);
                int last = lastDay(year[2] == 1, month);
                c.faulty(0, -1, x, head + "00", true);
                c.faulty(0, -1, x, head + last, true);
                c.faulty(6, 6, x, head + (last + 1), true);
            }
            c.faulty(6, 6, x, String.format("(7006)%02d0199", year[1]), true);
        }
    }

    private static void times(Checks c) {
        c.sentence("Terms 1", "t: four digits, hour 00 .. 23, minute 00 .. 59");
        for (int n = 0; n < 100; n++) {
            boolean hour = n <= 23;
            boolean minute = n <= 59;
            c.faulty(hour ? 0 : 6, hour ? -1 : 12, String.format("(7003)250131%02d00", n));
            c.faulty(minute ? 0 : 6, minute ? -1 : 12, String.format("(7003)25013123%02d", n));
        }
        c.faulty(3, 15, "(7003)250131235");
        c.faulty(3, 16, "(7003)25013123591");
    }

    private static void parts(Checks c, String text, int... due) {
        LabelPress x = Checks.pressWith(text);
        c.same("parts of " + text, due.length, x.element(0, 3));
        for (int j = 0; j < due.length; j++) {
            c.same("bytes of part " + j + " of " + text, due[j], x.part(0, j, 2));
        }
        c.same("no further part of " + text, -1, x.part(0, due.length, 2));
    }

    private static void leftOut(Checks c) {
        c.sentence("Terms 1", "What is in [ ] may be left out (all of it)");
        String key13 = Checks.keyOf("401234512345");
        parts(c, "(253)" + key13, 13);
        parts(c, "(253)" + key13 + "X", 13, 1);
        parts(c, "(253)" + key13 + "X".repeat(17), 13, 17);
        c.faulty(3, 5 + 30, "(253)" + key13 + "X".repeat(18));
        parts(c, "(255)" + key13, 13);
        parts(c, "(255)" + key13 + "1".repeat(12), 13, 12);
        c.faulty(3, 5 + 25, "(255)" + key13 + "1".repeat(13));
        parts(c, "(8003)" + Checks.KEY14, 14);
        parts(c, "(8003)" + Checks.KEY14 + "y".repeat(16), 14, 16);
        c.faulty(3, 6 + 30, "(8003)" + Checks.KEY14 + "y".repeat(17));
        parts(c, "(7007)250131", 6);
        parts(c, "(7007)250131250200", 6, 6);
        for (int bytes = 1; bytes < 6; bytes++) {
            c.faulty(3, 6 + 6 + bytes, "(7007)250131" + "250228".substring(0, bytes));
        }
        c.faulty(3, 6 + 12, "(7007)2501312502281");
        parts(c, "(8008)25013112", 6, 2);
        parts(c, "(8008)2501311230", 6, 2, 2);
        parts(c, "(8008)250131123059", 6, 2, 2, 2);
        c.faulty(3, 6 + 7, "(8008)2501311");
        c.faulty(3, 6 + 9, "(8008)250131123");
        c.faulty(3, 6 + 11, "(8008)25013112305");
        c.faulty(3, 6 + 12, "(8008)2501311230591");
        c.faulty(3, 6, "(8008)");
        c.faulty(3, 6 + 6, "(8008)250131");
    }

    private static void points(Checks c) {
        c.sentence("Terms 1", "With a digit p as the fourth one");
        for (String line : ("3100 5 123456,3160 5 123456,3200 5 123456,3370 5 123456,"
            + "3400 5 123456,3570 5 123456,3600 5 123456,3690 5 123456,3950 5 123456,"
            + "3900 9 1,3910 9 9781,3920 9 1,3930 9 9781,3940 3 1234").split(",")) {
            String[] words = line.split(" ");
            for (int p = 0; p <= 9; p++) {
                String ai = words[0].substring(0, 3) + p;
                boolean good = p <= Integer.parseInt(words[1]);
                LabelPress x = new LabelPress();
                Checks.readInBrackets(x, "(" + ai + ")" + words[2]);
                c.same("fault of " + ai, good ? 0 : 2, x.fault(0) == 8 ? 0 : x.fault(0));
                Checks.readString(x, ai + words[2]);
                c.same("fault of string " + ai, good ? 0 : 2, x.fault(0) == 8 ? 0 : x.fault(0));
            }
        }
        c.same("p 0", 0, Checks.pressWith("(3200)123456").element(0, 4));
        c.same("p 5", 5, Checks.pressWith("(3205)123456").element(0, 4));
        c.same("p 3", 3, Checks.pressWith("(3943)1234").element(0, 4));
    }

    private static void pointBeyondDigits(Checks c) {
        c.sentence("Terms 1", "there may be more of these than digits");
        LabelPress x = Checks.pressWith("(8020)A(3909)1");
        c.same("elements", 2, x.list(0));
        c.same("p", 9, x.element(1, 4));
        c.same("bytes", 1, x.part(1, 0, 2));
        c.same("number", 1, x.number(1, 0));
        x = Checks.pressWith("(8020)A(3919)9785");
        c.same("p behind a currency", 9, x.element(1, 4));
        c.same("the last part", 5, x.number(1, 1));
    }

    private static void fixed(Checks c) {
        c.sentence("Terms 1", "FIXED are those AIS that begin with 00, 01, 02, 11 to 17, 20, 31 to 36, 41");
        // Those at the bounds: 10 and 21, 30 and 37, 402 and 420 are not.
        fixedIs(c, 1, "20", "12");
        fixedIs(c, 1, "12", "250101");
        fixedIs(c, 1, "3200", "123456");
        fixedIs(c, 1, "3695", "123456");
        fixedIs(c, 1, "410", Checks.keyOf("401234512345"));
        fixedIs(c, 1, "417", Checks.keyOf("401234512345"));
        fixedIs(c, 1, "00", Checks.keyOf("10614141192837465"));
        fixedIs(c, 0, "22", "12");
        fixedIs(c, 0, "30", "12345678");
        fixedIs(c, 0, "3950", "123456");
        fixedIs(c, 0, "3940", "1234");
        fixedIs(c, 0, "402", Checks.keyOf("4012345123451234"));
        fixedIs(c, 0, "420", "A");
        fixedIs(c, 0, "422", "276");
        fixedIs(c, 0, "8005", "123456");
        fixedIs(c, 0, "7006", "250101");
        fixedIs(c, 0, "235", "A");
        fixedIs(c, 0, "8017", Checks.keyOf("10614141192837465"));
    }

    private static void fixedIs(Checks c, int due, String ai, String value) {
        LabelPress x = Checks.pressWith("(" + ai + ")" + value);
        c.same("fixed " + ai, due, x.element(0, 5));
        // Behind one that is FIXED the next AI stands at once; else its VALUE goes on.
        Checks.readString(x, ai + value + "91B");
        int elements = x.fault(0) == 0 ? x.list(0) : 0;
        c.same("string with " + ai, due, elements == 2 ? 1 : 0);
        c.same("written " + ai, ai + value + (due == 1 ? "91B" : "~91B"),
            Checks.outOf(Checks.pressWith("(" + ai + ")" + value + "(91)B"), false));
    }

    private static void checks(Checks c) {
        c.sentence("Terms 1", "what lacks to the next multiple of ten (0, if it is one)");
        String[] digits = {"0", "1", "2", "3", "4", "5", "6", "7", "8", "9", "00", "01", "10", "55",
            "19", "91", "100", "37", "73", "999", "123456789", "9".repeat(29), "9".repeat(30)};
        for (String some : digits) {
            LabelPress x = new LabelPress();
            Checks.type(x, some);
            int due = Checks.keyOf(some).charAt(some.length()) - '0';
            c.same("CHECK of " + some, due, x.check());
        }
        LabelPress x = new LabelPress();
        Checks.type(x, "31");
        c.same("3 + 3 and 4 more", 4, x.check());
        Checks.type(x, "71");
        c.same("7 + 3 is one", 0, x.check());
        Checks.type(x, "81");
        c.same("8 + 3 is one above", 9, x.check());
        Checks.type(x, "61");
        c.same("6 + 3 is one below", 1, x.check());
    }

    private static void centuries(Checks c) {
        c.sentence("Terms 1", "from the CLOCK's year less 49 to that and 50");
        int[] clocks = {1950, 1951, 1999, 2000, 2001, 2025, 2048, 2049, 2050, 2051, 2099, 2100, 2199,
            2200};
        for (int clock : clocks) {
            LabelPress x = new LabelPress();
            x.clock(clock);
            for (int year : new int[] {clock - 49, clock - 48, clock - 1, clock, clock + 1,
                clock + 49, clock + 50}) {
                Checks.readInBrackets(x, String.format("(7006)%02d0101", year % 100));
                c.same("clock " + clock, year, x.date(0, 0, 0));
            }
        }
        LabelPress x = new LabelPress();
        Checks.readInBrackets(x, "(7006)000101");
        c.same("00 by 2025", 2000, x.date(0, 0, 0));
        Checks.readInBrackets(x, "(7006)990101");
        c.same("99 by 2025", 1999, x.date(0, 0, 0));
    }

    private static void lastDays(Checks c) {
        c.sentence("Terms 1", "Day 00 means the month's last day");
        LabelPress x = new LabelPress();
        for (int month = 1; month <= 12; month++) {
            Checks.readInBrackets(x, String.format("(7007)25%02d0024%02d00", month, month));
            c.same("month " + month, lastDay(false, month), x.date(0, 0, 2));
            c.same("its month", month, x.date(0, 0, 1));
            c.same("its year", 2025, x.date(0, 0, 0));
            c.same("month " + month + " of a leap year", lastDay(true, month), x.date(0, 1, 2));
        }
        x.clock(2100);
        Checks.readInBrackets(x, "(7006)000200");
        c.same("of the year meant", 28, x.date(0, 0, 2));
    }
}
