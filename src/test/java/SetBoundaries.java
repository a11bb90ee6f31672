/** Terms, 4: the sets that are read, each of their CHARACTERS, and those without a meaning. */
final class SetBoundaries {
    private static final String MARKS = "!\"%&'()*+,-./:;<=>?_";
    private static final int A = 103;
    private static final int B = 104;
    private static final int C = 105;

    static void run(Checks c) {
        c.sentence("Terms 4", "A: 0 to 63 bytes 32 to 95. B: 0 to 95 bytes 32 to 127. C: 0 to 99 two "
            + "digits. No other one has a meaning");
        for (int character = 0; character < 103; character++) {
            alone(c, A, character);
            alone(c, B, character);
            alone(c, C, character);
        }
        changes(c);
        shifts(c);
        endOfSigns(c);
        separators(c);
        alongThem(c);
    }

    private static boolean isSign(int b) {
        return b >= '0' && b <= '9' || b >= 'A' && b <= 'Z' || b >= 'a' && b <= 'z'
            || b < 127 && MARKS.indexOf(b) >= 0;
    }

    /** A symbol of AI 90, told in that set, with these CHARACTERS behind it. */
    private static LabelPress scannedBehind90(int start, int... characters) {
        int head = start == C ? 1 : 2;
        int[] data = new int[head + characters.length];
        data[head - 1] = 16;
        data[0] = start == C ? 90 : 25;
        System.arraycopy(characters, 0, data, head, characters.length);
        LabelPress x = new LabelPress();
        Checks.draw(x, Checks.modulesOf(Checks.framed(start, data)));
        x.scan();
        return x;
    }

    /** Where that one of the CHARACTERS behind AI 90 begins. */
    private static int placeOf(int start, int i) {
        return 11 * (2 + (start == C ? 1 : 2) + i);
    }

    private static void told(Checks c, String what, int fault, int place, LabelPress x) {
        c.same("fault of " + what, fault, x.fault(0));
        c.same("place of " + what, place, x.fault(1));
    }

    private static void value(Checks c, String what, String due, LabelPress x) {
        told(c, what, 0, -1, x);
        c.same("string of " + what, "90" + due, Checks.outOf(x, false));
    }

    private static void alone(Checks c, int start, int character) {
        String what = character + " in the set of " + start;
        LabelPress x = scannedBehind90(start, character);
        boolean isByte = start == A && character < 64 || start == B && character < 96;
        boolean changes = start == A && (character == 99 || character == 100)
            || start == B && (character == 99 || character == 101)
            || start == C && (character == 100 || character == 101);
        if (start == C && character < 100) {
            value(c, what, String.format("%02d", character), x);
        } else if (isByte && isSign(character + 32)) {
            value(c, what, "" + (char) (character + 32), x);
        } else if (isByte) {
            told(c, what, 4, 2, x);
        } else if (changes || character == 102) {
            // The VALUE has no byte.
            told(c, what, 3, 2, x);
        } else {
            told(c, what, 16, placeOf(start, 0), x);
        }
    }

    /** 65 tells a in B, two digits in C, and nothing in A. */
    private static void setIs(Checks c, String what, int due, int start, int... characters) {
        int[] all = java.util.Arrays.copyOf(characters, characters.length + 1);
        all[characters.length] = 65;
        LabelPress x = scannedBehind90(start, all);
        if (due == A) {
            told(c, what, 16, placeOf(start, characters.length), x);
        } else {
            value(c, what, due == B ? "a" : "65", x);
        }
    }

    private static void changes(Checks c) {
        c.sentence("Terms 4", "99 in A and B: C from now on; 100 in A and C: B; 101 in B and C: A");
        setIs(c, "A", A, A);
        setIs(c, "B", B, B);
        setIs(c, "C", C, C);
        setIs(c, "A to C", C, A, 99);
        setIs(c, "B to C", C, B, 99);
        setIs(c, "A to B", B, A, 100);
        setIs(c, "C to B", B, C, 100);
        setIs(c, "B to A", A, B, 101);
        setIs(c, "C to A", A, C, 101);
        setIs(c, "A to B to C to A", A, A, 100, 99, 101);
        setIs(c, "A to C to B", B, A, 99, 100);
        setIs(c, "B to A to C", C, B, 101, 99);
        setIs(c, "C to A to B", B, C, 101, 100);
        value(c, "from now on", "1234", scannedBehind90(B, 99, 12, 34));
        value(c, "from now on", "ab", scannedBehind90(A, 100, 65, 66));
        told(c, "from now on", 16, placeOf(B, 2), scannedBehind90(B, 101, 33, 65));
        // In C itself 99 is two digits; one that would change to its own set has no meaning.
        value(c, "99 in C", "99", scannedBehind90(C, 99));
        told(c, "100 in B", 16, placeOf(B, 0), scannedBehind90(B, 100, 33));
        told(c, "101 in A", 16, placeOf(A, 0), scannedBehind90(A, 101, 33));
        told(c, "100 in B again", 16, placeOf(C, 1), scannedBehind90(C, 100, 100, 33));
        told(c, "101 in A again", 16, placeOf(B, 1), scannedBehind90(B, 101, 101, 33));
    }

    private static void shifts(Checks c) {
        c.sentence("Terms 4", "98 in A and B: the next one is of the other one of these two (if it is a "
            + "byte there; else 98 has no meaning)");
        for (int character = 0; character < 103; character++) {
            String inA = "98 and " + character + " in A";
            LabelPress x = scannedBehind90(A, 98, character);
            if (character > 95) {
                told(c, inA, 16, placeOf(A, 0), x);
            } else if (isSign(character + 32)) {
                value(c, inA, "" + (char) (character + 32), x);
            } else {
                told(c, inA, 4, 2, x);
            }
            String inB = "98 and " + character + " in B";
            x = scannedBehind90(B, 98, character, 65);
            if (character > 63) {
                told(c, inB, 16, placeOf(B, 0), x);
            } else if (isSign(character + 32)) {
                value(c, inB, (char) (character + 32) + "a", x);
            } else {
                told(c, inB, 4, 2, x);
            }
        }
        // The next one alone: behind it the set is the one that it was.
        told(c, "behind it A", 16, placeOf(A, 2), scannedBehind90(A, 98, 65, 65));
        value(c, "behind it B", "Aa", scannedBehind90(B, 98, 33, 65));
        value(c, "one behind the other", "aA", scannedBehind90(A, 98, 65, 33));
        value(c, "twice", "ab", scannedBehind90(A, 98, 65, 98, 66));
        told(c, "the last one in A", 16, placeOf(A, 0), scannedBehind90(A, 98));
        told(c, "the last one in B", 16, placeOf(B, 1), scannedBehind90(B, 33, 98));
        value(c, "in C", "98", scannedBehind90(C, 98));
        told(c, "behind a change to A", 16, placeOf(C, 1), scannedBehind90(C, 101, 98, 96));
        value(c, "behind a change to A", "a", scannedBehind90(C, 101, 98, 65));
        told(c, "behind a change to B", 16, placeOf(C, 1), scannedBehind90(C, 100, 98, 64));
    }

    private static void endOfSigns(Checks c) {
        c.sentence("Terms 4", "A byte 127 is none of the SIGNS");
        told(c, "95 in B", 4, 2, scannedBehind90(B, 95));
        told(c, "98 and 95 in A", 4, 2, scannedBehind90(A, 98, 95));
        value(c, "90 in B", "z", scannedBehind90(B, 90));
        told(c, "91 in B", 4, 2, scannedBehind90(B, 91));
        told(c, "a space", 4, 2, scannedBehind90(B, 0));
        value(c, "1 in B", "!", scannedBehind90(B, 1));
    }

    private static void separators(Checks c) {
        c.sentence("Terms 4", "102 FNC1, a byte 29");
        value(c, "in A", "A~91B", scannedBehind90(A, 33, 102, 25, 17, 34));
        value(c, "in B", "a~91b", scannedBehind90(B, 65, 102, 25, 17, 66));
        value(c, "in C", "12~9134", scannedBehind90(C, 12, 102, 91, 34));
        told(c, "last in A", 1, 4, scannedBehind90(A, 33, 102));
        told(c, "last in C", 1, 5, scannedBehind90(C, 12, 102));
        told(c, "twice", 2, 4, scannedBehind90(B, 33, 102, 102, 25, 17, 34));
        c.same("bytes of the string", 7, scannedBehind90(B, 65, 102, 25, 17, 66).scanned(1));
    }

    private static void alongThem(Checks c) {
        c.sentence("Terms 4", "Then along them: 16 one that has no meaning there");
        told(c, "the first one", 16, placeOf(B, 1), scannedBehind90(B, 33, 96, 97, 98));
        told(c, "the last one", 16, placeOf(B, 3), scannedBehind90(B, 33, 33, 33, 97));
        told(c, "ahead of a STRING's own fault", 16, placeOf(B, 2), scannedBehind90(B, 0, 33, 97));
        LabelPress x = new LabelPress();
        Checks.draw(x, Checks.modulesOf(Checks.framed(B, 97)));
        x.scan();
        told(c, "behind FNC1", 16, 22, x);
    }
}
