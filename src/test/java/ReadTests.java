/** Promise 6: texts in brackets and strings, with each of their FAULTS. */
final class ReadTests {
    private static final String KEY = "(01)" + Checks.KEY14;

    static void run(Checks c) {
        state(c);
        bracketSigns(c);
        stringSigns(c);
        values(c);
        escapes(c);
        datesAndTimes(c);
        repeated(c);
        wants(c);
        tooMany(c);
    }

    private static void state(Checks c) {
        LabelPress x = Checks.pressWith(KEY);
        c.same("6 list", 1, x.list(0));
        c.no("6 the tape is empty then", x.end(1));
        c.same("6 a fault", -1, Checks.readInBrackets(x, "(10)A"));
        c.no("6 the tape is empty then, too", x.end(1));
        c.same("6 the list stays with a fault", "(01)" + Checks.KEY14, Checks.outOf(x, true));
        c.same("6 read again", 2, Checks.readString(x, "90A~91B"));
        c.same("6 the list is another one", "(90)A(91)B", Checks.outOf(x, true));
    }

    private static void bracketSigns(Checks c) {
        c.faulty(1, 0, "");
        c.faulty(1, 0, "x");
        c.faulty(1, 0, "01" + Checks.KEY14);
        c.faulty(1, 1, "(");
        c.faulty(2, 1, "()");
        c.faulty(2, 1, "()1");
        c.faulty(2, 1, "(0");
        c.faulty(2, 1, "(1)A");
        c.faulty(2, 1, "(03)1");
        c.faulty(2, 1, "(001)1");
        c.faulty(2, 1, "(00001)1");
        c.faulty(2, 1, "( 01)1");
        c.faulty(2, 1, "(90(91)A");
        c.faulty(2, 1, "(3106)001250");
        c.faulty(2, 1, "(310)001250");
        c.faulty(2, 1, "(3944)0012");
        c.faulty(1, 3, "(00");
        c.faulty(1, 5, "(3103");
        c.faulty(1, 8, "(90)A(91");
        c.faulty(1, 6, "(90)A(");
        c.faulty(2, 6, "(90)A(9");
        c.faulty(3, 4, "(01)");
        c.faulty(3, 4, "(99)(90)A");
        c.faulty(3, 4, "(99)");
        c.faulty(0, -1, "(90))");
        c.faulty(0, -1, "(90)A)(91)B)");
        c.faulty(4, 5, "(90)A" + (char) 29 + "91B");
    }

    private static void stringSigns(Checks c) {
        c.faultyString(1, 0, "");
        c.faultyString(2, 0, "1");
        c.faultyString(2, 0, "(01)");
        c.faultyString(2, 0, "~90A");
        c.faultyString(3, 2, "90");
        c.faultyString(3, 2, "90~91B");
        c.faultyString(0, -1, "90A~91B");
        c.faultyString(1, 4, "90A~");
        c.faultyString(2, 4, "90A~~91B");
        c.faultyString(2, 4, "90A~9");
        c.faultyString(0, -1, "90A91B");
        c.faultyString(0, -1, "2012");
        c.faultyString(0, -1, "201290A");
        c.faultyString(0, -1, "2012~90A");
        c.faultyString(1, 5, "2012~");
        c.faultyString(2, 5, "2012~~90A");
        c.faultyString(2, 4, "20123");
        c.faultyString(3, 3, "201");
        c.faultyString(3, 3, "201~90A");
        c.faultyString(0, -1, "0104012345123456310300125010AB");
        c.faultyString(0, -1, "3700~0204012345123456");
        c.faultyString(0, -1, "422276~2012");
        c.faultyString(3, 6, "4222762012");
        c.faultyString(3, 5, "42227");
        c.faultyString(0, -1, "90\"a(b)");
        c.faultyString(4, 4, "90AB\\(C");
        c.faultyString(2, 0, "3106001250");
    }

    private static void values(Checks c) {
        c.faulty(3, 7, "(01)123");
        c.faulty(3, 18, KEY + "1");
        c.faulty(3, 18, KEY + "#");
        c.faulty(5, 17, "(01)04012345123457");
        c.faulty(4, 17, "(01)0401234512345A");
        c.faulty(4, 4, "(01)/4012345123456");
        c.faulty(4, 4, "(01):4012345123456");
        c.faulty(0, -1, "(90)" + "A".repeat(30));
        c.faulty(3, 34, "(90)" + "A".repeat(31));
        c.faulty(0, -1, "(99)" + "z".repeat(90));
        c.faulty(3, 94, "(99)" + "z".repeat(91));
        c.faulty(4, 6, "(99)ab c");
        c.faulty(4, 4, "(99)" + (char) 127);
        c.faulty(4, 4, "(99)" + (char) 255);
        c.faulty(4, 4, "(99)" + (char) 0);
        String signs = "!\"%&')*+,-./:;<=>?_0123456789ABCDEFGHIJKLMNOPQRSTUVWXYZ"
            + "abcdefghijklmnopqrstuvwxyz";
        c.faulty(0, -1, "(99)" + signs);
        for (String other : "# $ @ [ ] ^ ` { | } ~".split(" ")) {
            c.faulty(4, 4, "(99)" + other);
        }
        c.faulty(5, 17, "(253)4012345123457X");
        c.faulty(0, -1, "(253)4012345123456");
        c.faulty(0, -1, "(253)4012345123456" + "X".repeat(17));
        c.faulty(3, 35, "(253)4012345123456" + "X".repeat(18));
        c.faulty(0, -1, "(255)4012345123456");
        c.faulty(4, 18, "(255)4012345123456X");
        c.faulty(3, 30, "(255)40123451234561234567890123");
        c.faulty(0, -1, "(421)276Z");
        c.faulty(3, 8, "(421)276");
        c.faulty(4, 7, "(421)27Z9");
        c.faulty(3, 24, "(8006)" + Checks.KEY14 + "0102" + "1");
        c.faulty(3, 23, "(8006)" + Checks.KEY14 + "010");
        c.faulty(5, 19, "(8006)040123451234570102");
        c.faulty(0, -1, "(8008)25022812");
        c.faulty(0, -1, "(8008)2502281230");
        c.faulty(0, -1, "(8008)250228123059");
        c.faulty(3, 12, "(8008)250228");
        c.faulty(3, 15, "(8008)250228123");
        c.faulty(3, 17, "(8008)25022812305");
        c.faulty(3, 18, "(8008)2502281230599");
    }

    private static void escapes(Checks c) {
        c.faulty(0, -1, "(90)\\(");
        c.faulty(0, -1, "(90)A\\(B\\()(91)C");
        c.faulty(4, 5, "(90)A\\B");
        c.faulty(4, 5, "(90)A\\");
        c.faulty(4, 5, "(90)A\\\\(B");
        c.faulty(4, 5, "(20)1\\(");
        c.faulty(4, 4, "(20)\\(1");
        c.faulty(0, -1, "(90)" + "\\(".repeat(30));
        c.faulty(3, 34, "(90)" + "A".repeat(30) + "\\(");
        c.faulty(3, 34, "(90)" + "A".repeat(30) + "\\A");
        c.faulty(3, 64, "(90)" + "\\(".repeat(30) + "\\(");
        LabelPress x = Checks.pressWith("(90)A\\(01\\)");
        c.same("6 the bad text stays out", 0, x.list(0));
        x = Checks.pressWith("(90)A\\(01)\\(");
        c.same("6 the \\ is none of its bytes", 6, x.element(0, 2));
        c.same("6 the bytes", "90A(01)(", Checks.outOf(x, false));
    }

    private static void datesAndTimes(Checks c) {
        c.faulty(0, -1, "(7006)250100");
        c.faulty(0, -1, "(7006)250131");
        c.faulty(6, 6, "(7006)250132");
        c.faulty(6, 6, "(7006)250001");
        c.faulty(6, 6, "(7006)251301");
        c.faulty(6, 6, "(7006)250431");
        c.faulty(6, 6, "(7006)250631");
        c.faulty(6, 6, "(7006)250931");
        c.faulty(6, 6, "(7006)251131");
        c.faulty(0, -1, "(7006)251231");
        c.faulty(0, -1, "(7006)240229");
        c.faulty(6, 6, "(7006)250229");
        c.faulty(0, -1, "(7006)000229");
        c.faulty(4, 11, "(7006)25013A");
        c.faulty(3, 11, "(7006)25013");
        c.faulty(6, 6, "(7006)2513011");
        c.faulty(0, -1, "(7003)2501312359");
        c.faulty(0, -1, "(7003)2501310000");
        c.faulty(6, 12, "(7003)2501312400");
        c.faulty(6, 12, "(7003)2501312360");
        c.faulty(6, 6, "(7003)2501322360");
        c.faulty(6, 6, "(7003)250132");
        c.faulty(3, 15, "(7003)250131235");
        c.faulty(0, -1, "(7007)250131");
        c.faulty(0, -1, "(7007)250131250200");
        c.faulty(6, 12, "(7007)250131250230");
        c.faulty(3, 17, "(7007)25013125021");
        c.faultyString(6, 2, "1725133010A");
        LabelPress x = new LabelPress();
        x.clock(2100);
        c.faulty(6, 6, x, "(7006)000229", true);
        c.faulty(0, -1, x, "(7006)960229", true);
    }

    private static void repeated(Checks c) {
        c.faulty(7, 19, KEY + "(01)10614141123459");
        c.faulty(7, 11, "(90)A(91)B(90)B");
        c.faulty(7, 31, KEY + "(3103)001250(3102)001250");
        c.faulty(0, -1, KEY + "(3103)001250(3113)001250");
        // Along the ELEMENTS, the first one first: 8 of the second is ahead of 7 of the third.
        c.faulty(8, 6, "(90)A(10)B(90)C");
        c.faulty(7, 6, "(90)A(90)C(10)B");
        c.faulty(4, 14, "(90)A(90)C(10)#");
    }

    private static void wants(Checks c) {
        c.faulty(8, 1, "(02)" + Checks.KEY14);
        c.faulty(8, 1, "(37)5");
        c.faulty(0, -1, "(37)5(02)" + Checks.KEY14);
        c.faulty(8, 1, KEY + "(02)10614141123459(37)1");
        c.faulty(8, 24, "(02)" + Checks.KEY14 + "(37)1(01)" + Checks.KEY14);
        String itip = "(8006)" + Checks.KEY14 + "0102";
        String content = "(8026)" + Checks.KEY14 + "0102";
        String package37 = "(02)" + Checks.KEY14 + "(37)1";
        for (String ai : "10 11 13 15 16 17".split(" ")) {
            String element = "(" + ai + ")250101";
            c.faulty(8, 1, element);
            c.faulty(0, -1, element + KEY);
            c.faulty(0, -1, itip + element);
            c.faulty(0, -1, content + element);
            c.faulty(0, -1, element + package37);
            c.faulty(8, 1, element + "(00)106141411928374657");
        }
        c.faulty(0, -1, "(12)250101");
        c.faulty(8, 1, "(21)A");
        c.faulty(0, -1, "(21)A" + KEY);
        c.faulty(0, -1, "(21)A" + itip);
        c.faulty(8, 1, "(21)A" + content);
        c.faulty(8, 1, "(21)A" + package37);
        for (int ai = 310; ai <= 316; ai++) {
            c.faulty(8, 1, "(" + ai + "1)001250");
            c.faulty(0, -1, "(" + ai + "1)001250" + KEY);
            c.faulty(0, -1, "(" + ai + "1)001250" + package37);
            c.faulty(8, 1, "(" + ai + "1)001250" + itip);
        }
        c.faulty(0, -1, "(3201)001250");
        for (String price : "(3922)199 (3932)978199".split(" ")) {
            c.faulty(8, 1, price);
            c.faulty(0, -1, price + KEY);
            c.faulty(8, 1, price + package37);
        }
        for (String sum : "(3902)199 (3912)978199".split(" ")) {
            c.faulty(8, 1, sum + KEY);
            c.faulty(0, -1, sum + "(255)4012345123456");
            c.faulty(0, -1, sum + "(8020)A");
        }
        c.faulty(0, -1, "(3942)1234");
        c.faulty(0, -1, "(3952)123456");
        c.faulty(0, -1, "(420)A");
        c.faulty(0, -1, "(421)276A");
        c.faulty(8, 1, "(420)A(421)276A");
        c.faulty(8, 10, "(421)276A(420)A");
        c.faulty(0, -1, "(8018)106141411928374657");
        c.faulty(0, -1, "(8019)1(8017)106141411928374657");
        // 00 meets no want, and hinders none.
        String pallet = "(00)106141411928374657";
        c.faulty(0, -1, pallet + KEY);
        c.faulty(0, -1, pallet + "(420)A");
        c.faulty(0, -1, pallet + package37);
        c.faulty(8, 1, "(37)5" + pallet);
        c.faulty(8, 1, "(21)A" + pallet);
        c.faulty(8, 1, "(3103)001250" + pallet);
        c.faulty(8, 1, "(3922)199" + pallet);
        c.faulty(8, 1, "(3902)199" + pallet);
        c.faulty(8, 1, "(8018)106141411928374657(8017)106141411928374657");
    }

    private static void tooMany(Checks c) {
        String[] ais = "90 91 92 93 94 95 96 97 98 99 240 241 243 250 251 254 400 401 403 7002"
            .split(" ");
        StringBuilder twenty = new StringBuilder();
        for (String ai : ais) {
            twenty.append('(').append(ai).append(")A");
        }
        int n = twenty.length();
        c.faulty(0, -1, twenty.toString());
        c.faulty(9, n + 1, twenty + "(8002)A");
        c.faulty(9, n + 1, twenty + "(8002");
        c.faulty(2, n + 1, twenty + "(8099)A");
        c.faulty(1, n + 1, twenty + "(");
        c.faulty(9, n + 1, twenty + "(90)#");
        String string = twenty.toString().replace("(", "~").replace(")", "").substring(1);
        c.faultyString(0, -1, string);
        c.faultyString(9, string.length() + 1, string + "~8002A");
        c.faultyString(2, string.length() + 1, string + "~8");
        c.faultyString(1, string.length() + 1, string + "~");
    }
}
