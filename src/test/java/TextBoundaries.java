/** Terms, 2, and promise 6: bounds of texts and their FAULTS, a test for each sentence. */
final class TextBoundaries {
    private static final String KEY = "(01)" + Checks.KEY14;
    private static final String[] TWENTY = ("90 91 92 93 94 95 96 97 98 99 240 241 243 250 251 254 "
        + "400 401 403 7002").split(" ");

    static void run(Checks c) {
        atLeastOne(c);
        escapedBracket(c);
        separators(c);
        fixedInStrings(c);
        endWhereAiMustBegin(c);
        endWhereBracketMustStand(c);
        anotherByteThanBracket(c);
        noSuchAi(c);
        endsTooSoon(c);
        tooLong(c);
        escapedAtThatOne(c);
        badByte(c);
        badCheck(c);
        badDate(c);
        lookedAtAheadOfTheNext(c);
        firstAlongTheText(c);
        atOnePlaceTheLeast(c);
        twentyFirst(c);
        ifNoneOfThese(c);
        repeated(c);
        whateverPointIs(c);
        listStays(c);
    }

    private static void atLeastOne(Checks c) {
        c.sentence("Terms 2", "at least one");
        c.faulty(1, 0, "");
        c.faultyString(1, 0, "");
        c.faulty(0, -1, "(90)A");
        c.faultyString(0, -1, "90A");
        LabelPress x = Checks.pressWith("(90)A");
        c.faulty(1, 0, x, "", true);
        c.faulty(1, 0, x, "", false);
        c.same("the list stays", 1, x.list(0));
    }

    private static void escapedBracket(Checks c) {
        c.sentence("Terms 2", "in a VALUE each ( has a \\ ahead (which is none of its bytes)");
        c.faulty(0, -1, "(90)\\(");
        c.same("one byte", 1, Checks.pressWith("(90)\\(").element(0, 2));
        c.same("the byte", '(', Checks.pressWith("(90)\\(").letter(0, 0));
        c.same("four bytes", "90((A(", Checks.outOf(Checks.pressWith("(90)\\(\\(A\\("), false));
        c.same("ahead of the next one", "(90)\\((91)\\(",
            Checks.outOf(Checks.pressWith("(90)\\((91)\\("), true));
        // Thirty bytes are all that it may have: they stand in sixty.
        c.faulty(0, -1, "(90)" + "\\(".repeat(30));
        c.same("thirty bytes", 30, Checks.pressWith("(90)" + "\\(".repeat(30)).element(0, 2));
        // In a STRING it is a byte as others are, and a \ is none of the SIGNS.
        c.faultyString(0, -1, "90(");
        c.faultyString(4, 2, "90\\(");
        c.faultyString(4, 3, "90A\\(");
    }

    private static void separators(Checks c) {
        c.sentence("Terms 2", "behind a VALUE of an AI that is not FIXED one stands");
        c.faultyString(0, -1, "90A~91B");
        c.same("with one", 2, Checks.readString(new LabelPress(), "90A~91B"));
        c.same("without one", 1, Checks.readString(new LabelPress(), "90A91B"));
        c.faultyString(3, 5, "42227~");
        c.faultyString(3, 6, "4222762012");
        c.faultyString(1, 7, "422276~");
        c.faultyString(2, 7, "422276~~2012");
        c.sentence("Terms 2", "behind one that is FIXED one may stand then");
        c.same("with one", 2, Checks.readString(new LabelPress(), "2012~90A"));
        c.same("without one", 2, Checks.readString(new LabelPress(), "201290A"));
        c.faultyString(2, 5, "2012~~90A");
        c.sentence("Terms 2", "if another ELEMENT follows");
        c.faultyString(0, -1, "2012");
        c.faultyString(1, 5, "2012~");
        c.faultyString(0, -1, "90A");
        c.faultyString(1, 4, "90A~");
        c.faultyString(2, 0, "~90A");
        c.faultyString(2, 0, "~");
    }

    private static void fixedInStrings(Checks c) {
        c.sentence("Terms 2", "one of a FIXED AI in a STRING has as many bytes as its PARTS, fewer if a "
            + "byte 29, or the end, comes first");
        c.faultyString(0, -1, "2012320112345612250101");
        c.faultyString(2, 4, "20123");
        c.faultyString(2, 10, "3201123456X");
        c.faultyString(3, 3, "201");
        c.faultyString(3, 2, "20");
        c.faultyString(3, 3, "201~90A");
        c.faultyString(3, 2, "20~90A");
        c.faultyString(3, 15, "01" + Checks.KEY14.substring(0, 13));
        c.faultyString(3, 15, "01" + Checks.KEY14.substring(0, 13) + "~90A");
        c.faultyString(4, 15, "01" + Checks.KEY14.substring(0, 13) + "A");
        // In brackets it goes on up to the next one, as others do.
        c.faulty(3, 6, "(20)123");
        c.faulty(3, 6, "(20)123(90)A");
    }

    private static void endWhereAiMustBegin(Checks c) {
        c.sentence("Terms 2", "1 the text's end (its length) where an AI must begin");
        c.faulty(1, 0, "");
        c.faulty(1, 1, "(");
        c.faulty(1, 6, "(90)A(");
        c.faulty(1, 7, "(20)12(");
        c.faultyString(1, 0, "");
        c.faultyString(1, 4, "90A~");
        c.faultyString(1, 17, "01" + Checks.KEY14 + "~");
    }

    private static void endWhereBracketMustStand(Checks c) {
        c.sentence("Terms 2", "or a ) must stand");
        c.faulty(1, 3, "(90");
        c.faulty(1, 4, "(240");
        c.faulty(1, 5, "(3105");
        c.faulty(1, 8, "(90)A(90");
        c.faulty(1, 10, "(90)A(7002");
    }

    private static void anotherByteThanBracket(Checks c) {
        c.sentence("Terms 2", "in brackets another byte than the ( with which the text begins");
        for (String text : "90)A|9|)90)A| (90)A|\\(90)A|A".split("\\|")) {
            c.faulty(1, 0, text);
        }
        c.faulty(1, 0, (char) 29 + "(90)A");
        c.faulty(1, 0, "" + (char) 0);
        c.faulty(1, 0, (char) 255 + "(");
    }

    private static void noSuchAi(Checks c) {
        c.sentence("Terms 2", "2 where an AI must begin: if the bytes from there on begin with none of the "
            + "table (in brackets: if what stands up to the next ) , or the end, is none)");
        for (String none : ("0 1 9 03 14 18 19 23 24 31 38 40 70 80 234 236 252 310 309 418 7000 7011 "
            + "8000 8009 8027 3106 3946 00000 9 900 901 A a -1 +1 (90").split(" ")) {
            c.faulty(2, 1, "(" + none + ")1");
            c.faulty(2, 1, "(" + none);
            c.faulty(2, 6, "(90)A(" + none + ")1");
        }
        c.faulty(2, 1, "()");
        c.faulty(2, 1, "()1");
        c.faulty(2, 1, "( 90)A");
        c.faulty(2, 1, "(90 )A");
        c.faulty(2, 1, "(" + (char) 255 + ")");
        for (String none : ("0 1 9 3 03 14 18 23 24 31 310 3106 3109 3946 3949 38 7 70 700 7000 7011 80 "
            + "8000 8009 8027 41 418 40 404 A (90)A )").split(" ")) {
            c.faultyString(2, 0, none);
            c.faultyString(2, 4, "90A~" + none);
            c.faultyString(2, 4, "2012" + none);
        }
        // As many bytes as the AI has are asked for, no more: what follows is its VALUE.
        c.faultyString(0, -1, "900");
        c.faultyString(3, 2, "90");
        c.faultyString(3, 4, "3105");
    }

    private static void endsTooSoon(Checks c) {
        c.sentence("Terms 2", "3 a VALUE that ends too soon: at its end (the text's, too)");
        for (String value : new String[] {"", "1"}) {
            int end = 4 + value.length();
            c.faulty(3, end, "(20)" + value);
            c.faulty(3, end, "(20)" + value + "(90)A");
            c.faulty(3, end, "(20)" + value + "(");
            c.faultyString(3, end - 2, "20" + value);
            c.faultyString(3, end - 2, "20" + value + "~90A");
            c.faultyString(3, end - 2, "20" + value + "~");
        }
        c.faulty(3, 4, "(90)(91)B");
        c.faulty(3, 8, "(421)276");
        c.faulty(3, 8, "(421)276(90)A");
        c.faulty(3, 7, "(421)27");
        c.faultyString(3, 6, "421276~90A");
        c.faultyString(3, 6, "421276");
        c.faultyString(3, 2, "90");
        c.faulty(3, 12, "(7003)250131");
        c.faultyString(3, 10, "7003250131~90A");
    }

    private static void tooLong(Checks c) {
        c.sentence("Terms 2", "too long: at the first byte too many");
        c.faulty(3, 6, "(20)123");
        c.faulty(3, 6, "(20)12345");
        c.faulty(3, 6, "(20)123(90)A");
        c.faulty(3, 6, "(20)12 ");
        c.faulty(3, 6, "(20)12" + (char) 29);
        c.faulty(3, 94, "(91)" + "A".repeat(91));
        c.faultyString(3, 92, "91" + "A".repeat(91));
        c.faultyString(3, 92, "91" + "A".repeat(91) + "~90A");
        c.faultyString(0, -1, "91" + "A".repeat(90) + "~90A");
        c.faultyString(3, 6, "4222761~90A");
        c.faultyString(3, 6, "422276 ");
        c.faultyString(3, 10, "30" + "12345678" + "9");
        c.faultyString(3, 6, "7010701");
        c.faulty(3, 17, "(421)276" + "A".repeat(10));
    }

    private static void escapedAtThatOne(Checks c) {
        c.sentence("Terms 2", "of a ( with a \\ ahead at that one, here and below");
        c.faulty(3, 6, "(20)12\\(");
        c.faulty(3, 6, "(20)12\\(A");
        c.faulty(3, 34, "(90)" + "A".repeat(30) + "\\(");
        c.faulty(3, 64, "(90)" + "\\(".repeat(31));
        c.faulty(4, 4, "(20)\\(1");
        c.faulty(4, 5, "(20)1\\(");
        c.faulty(4, 5, "(01)0\\(");
        c.faulty(4, 6, "(7006)\\(50131");
        c.faulty(4, 18, "(255)" + Checks.keyOf("401234512345") + "\\(");
    }

    private static void badByte(Checks c) {
        c.sentence("Terms 2", "4 a byte that its PART can't have (a \\ without a ( behind it, too)");
        c.faulty(4, 4, "(90)\\");
        c.faulty(4, 4, "(90)\\A");
        c.faulty(4, 4, "(90)\\)");
        c.faulty(4, 4, "(90)\\\\(");
        c.faulty(4, 6, "(90)AB\\");
        c.faulty(4, 6, "(90)\\(\\91)B");
        c.faulty(4, 4, "(20)A1");
        c.faulty(4, 5, "(20)1A");
        c.faulty(4, 5, "(20)1/");
        c.faulty(4, 5, "(20)1:");
        c.faulty(4, 5, "(20)1" + (char) 29);
        c.faulty(4, 5, "(90)A" + (char) 29 + "91B");
        c.faulty(4, 7, "(421)27A1");
        c.faulty(0, -1, "(421)276A");
        c.faulty(4, 18, "(255)" + Checks.keyOf("401234512345") + "A");
        c.faulty(4, 12, "(7003)250131A");
        c.faultyString(4, 2, "20A1");
        c.faultyString(4, 3, "201A");
    }

    private static void badCheck(Checks c) {
        c.sentence("Terms 2", "5 a CHECK that is not right: at that digit");
        for (String line : "00 18,01 14,253 13,402 17,410 13,8006 14,8017 18".split(",")) {
            String ai = line.split(" ")[0];
            int k = Integer.parseInt(line.split(" ")[1]);
            String wrong = "0".repeat(k - 1) + "1";
            c.faulty(5, ai.length() + 2 + k - 1, "(" + ai + ")" + wrong);
            c.faultyString(5, ai.length() + k - 1, ai + wrong);
        }
        c.faulty(5, 5 + 17, "(90)A(01)" + Checks.KEY14.substring(0, 13) + "7");
        c.faulty(0, -1, "(01)" + "0".repeat(14));
    }

    private static void badDate(Checks c) {
        c.sentence("Terms 2", "6 a DATE or time that is none: at its first digit");
        c.faulty(6, 6, "(7006)251301");
        c.faulty(6, 6, "(7006)250132");
        c.faulty(6, 12, "(7007)250131251301");
        c.faulty(6, 12, "(7003)2501312400");
        c.faulty(6, 12, "(7003)2501312360");
        c.faulty(6, 11, "(90)A(7006)250132");
        c.faultyString(6, 2, "12251301");
        c.faultyString(6, 4, "7006250132");
        c.faultyString(6, 10, "70032501312400");
    }

    private static void lookedAtAheadOfTheNext(Checks c) {
        c.sentence("Terms 2", "a PART's CHECK, DATE, time is looked at when its bytes are all there and "
            + "right, ahead of the next PART");
        c.faulty(3, 11, "(7006)25130");
        c.faulty(4, 11, "(7006)25130A");
        c.faulty(3, 17, "(01)" + "0".repeat(13));
        c.faulty(4, 17, "(01)" + "0".repeat(13) + "A");
        c.faulty(3, 15, "(7003)250131246");
        c.faulty(4, 15, "(7003)250131246A");
        c.faulty(6, 6, "(7006)2513011");
        c.faulty(6, 6, "(7003)251301");
        c.faulty(6, 6, "(7003)251301A");
        c.faulty(6, 6, "(7003)2513012400");
        c.faulty(5, 17, "(253)" + "0".repeat(12) + "1#");
        c.faulty(5, 19, "(8006)" + "0".repeat(13) + "1");
        c.faulty(5, 19, "(8006)" + "0".repeat(13) + "1A");
        c.faulty(5, 17, "(01)" + "0".repeat(13) + "11");
        c.faulty(6, 6, "(8008)2513011");
    }

    private static void firstAlongTheText(Checks c) {
        c.sentence("Terms 2", "FAULTS, the first along the text");
        c.faulty(4, 4, "(90)#(03)A");
        c.faulty(2, 1, "(03)A(90)#");
        c.faulty(3, 5, "(20)1(01)" + "0".repeat(13) + "1");
        c.faulty(5, 17, "(01)" + "0".repeat(13) + "1(20)1");
        c.faulty(6, 4, "(12)250132(90");
        c.faulty(4, 5, "(90)A#" + "A".repeat(40));
        c.faulty(1, 8, "(90)A(91");
        c.faultyString(4, 3, "90A#~03");
        c.faultyString(2, 4, "90A~03#");
    }

    private static void atOnePlaceTheLeast(Checks c) {
        c.sentence("Terms 2", "at one place the least");
        // 3 ahead of 4: it is a byte too many, and none that any PART could have.
        c.faulty(3, 6, "(20)12#");
        c.faulty(3, 6, "(20)12\\");
        c.faulty(3, 94, "(91)" + "A".repeat(90) + "#");
        c.faultyString(3, 92, "91" + "A".repeat(90) + "#");
        c.faultyString(3, 6, "422276\\");
        // 2 ahead of 9, 1 ahead of 2.
        String twenty = twenty();
        c.faulty(2, twenty.length() + 1, twenty + "(03)A");
        c.faulty(1, twenty.length() + 1, twenty + "(");
        c.faultyString(2, stringOf(twenty).length() + 1, stringOf(twenty) + "~03");
        c.faultyString(1, stringOf(twenty).length() + 1, stringOf(twenty) + "~");
    }

    private static String twenty() {
        StringBuilder text = new StringBuilder();
        for (String ai : TWENTY) {
            text.append('(').append(ai).append(")A");
        }
        return text.toString();
    }

    private static String stringOf(String inBrackets) {
        return inBrackets.substring(1).replace("(", "~").replace(")", "");
    }

    private static void twentyFirst(Checks c) {
        c.sentence("Terms 2", "9 a 21st ELEMENT: at the first byte of its AI");
        String twenty = twenty();
        int end = twenty.length();
        LabelPress x = new LabelPress();
        c.same("twenty", 20, Checks.readInBrackets(x, twenty));
        c.same("the last one", 7002, x.element(19, 0));
        c.same("nineteen", 19, Checks.readInBrackets(x, twenty.substring(0, end - 7)));
        c.faulty(9, end + 1, twenty + "(8002)A");
        c.faulty(9, end + 1, twenty + "(8002");
        c.faulty(9, end + 1, twenty + "(8002)");
        c.faulty(9, end + 1, twenty + "(8002)A(8004)B");
        c.faulty(9, end + 1, twenty + "(20)1");
        c.faulty(9, end + 1, twenty + "(01)" + "0".repeat(13) + "1");
        // One that an ELEMENT ahead has, and a WANT that is not met, come behind all others.
        c.faulty(9, end + 1, twenty + "(90)A");
        c.faulty(9, end + 1, twenty + "(10)A");
        String string = stringOf(twenty);
        c.same("twenty in a string", 20, Checks.readString(x, string));
        c.faultyString(9, string.length() + 1, string + "~8002A");
        c.faultyString(9, string.length() + 1, string + "~8002");
        c.faultyString(9, 80, "2012".repeat(21));
        c.faultyString(7, 4, "2012".repeat(20));
        // A FAULT of the twentieth is ahead of the 21st, and what is behind it is not looked at.
        c.faulty(4, end - 1, twenty.substring(0, end - 1) + "#(8002)A");
    }

    private static void ifNoneOfThese(Checks c) {
        c.sentence("Terms 2", "If there is none of these, along the ELEMENTS, at the first byte of its AI");
        c.faulty(4, 14, "(90)A(90)A(91)#");
        c.faulty(1, 11, "(90)A(90)A(");
        c.faulty(5, 22, "(10)A(01)" + "0".repeat(13) + "1");
        c.faulty(7, 6, "(90)A(90)A(10)A");
        c.faulty(8, 6, "(90)A(10)A(90)A");
        c.faulty(8, 1, "(10)A(10)A");
        c.faulty(7, 24, KEY + "(10)A(10)A");
        c.faulty(8, 1, "(37)1(37)1");
        c.faultyString(7, 4, "90A~90B");
        c.faultyString(8, 4, "90A~10B");
    }

    private static void repeated(Checks c) {
        c.sentence("Terms 2", "7 an AI that an ELEMENT ahead has");
        c.faulty(7, 6, "(90)A(90)A");
        c.faulty(7, 6, "(90)A(90)B");
        c.faulty(7, 11, "(90)A(91)A(90)A");
        c.faulty(7, 11, "(90)A(91)A(91)A(90)A");
        c.faulty(0, -1, "(90)A(91)A");
        String nineteen = twenty().substring(0, twenty().length() - 7);
        c.faulty(7, nineteen.length() + 1, nineteen + "(90)A");
        c.faultyString(7, 4, "20122013");
        c.faultyString(7, 5, "2012~2013");
    }

    private static void whateverPointIs(Checks c) {
        c.sentence("Terms 2", "An AI with p is the same AI for 7 whatever p is");
        c.faulty(7, 13, "(3200)123456(3205)123456");
        c.faulty(7, 13, "(3203)123456(3203)123456");
        c.faulty(0, -1, "(3200)123456(3210)123456");
        c.faulty(7, 11, "(3943)1234(3940)1234");
        c.faulty(7, 13, "(3950)123456(3951)123456");
        c.faulty(7, 15, "(8020)A(3909)1(3900)2");
        // One whose fourth digit is none of that kind is another AI with each digit.
        c.faulty(0, -1, "(7030)276A(7031)276A");
        c.faulty(0, -1, "(8012)A(8013)A");
    }

    private static void listStays(Checks c) {
        c.sentence("6", "NONE with a FAULT (the list stays)");
        for (String bad : ("x|(|(90|(03)1|(20)1|(20)123|(20)1A|(01)00000000000001|(7006)251301|"
            + "(90)A(90)A|(10)A").split("\\|")) {
            State.badText(c, bad);
        }
        State.badText(c, "");
        State.badText(c, twenty() + "(8002)A");
        c.sentence("6", "The tape, which is empty then, is read");
        LabelPress x = new LabelPress();
        c.same("read", 1, Checks.readInBrackets(x, "(90)A"));
        c.no("empty then", x.end(1));
        c.same("read again", -1, x.read(true));
        c.same("an empty one", 1, x.fault(0));
        c.same("at its end", 0, x.fault(1));
        c.same("feed", 20, x.feed(0, 0, 0, 0, 0));
        c.same("a bad one", -1, x.read(false));
        c.no("empty then, too", x.end(1));
    }
}
