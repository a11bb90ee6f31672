import java.util.ArrayList;
import java.util.List;

/** The table: each AI with its PARTS, and no other AI (promises 6, 9, 11). */
final class TableTests {
    // As the document has it: AIS (p as the fourth digit up to the one named), then PARTS.
    static final String[] LINES = {
        "00 k18", "01 02 k14", "10 21 22 x..20", "11 12 13 15 16 17 d", "20 n2", "30 37 n..8",
        "90 x..30", "91-99 x..90", "235 x..28", "240 241 250 251 x..30", "242 n..6",
        "243 254 x..20", "253 k13 [x..17", "255 k13 [n..12", "400 401 403 x..30", "402 k17",
        "410-417 k13", "420 x..20", "421 n3 x..9", "422 424 426 n3", "427 x..3",
        "310-316p5 320-337p5 340-357p5 360-369p5 395p5 n6", "390p9 392p9 n..15",
        "391p9 393p9 n3 n..15", "394p3 n4", "7001 n13", "7002 x..30", "7003 d t", "7004 n..4",
        "7005 x..12", "7006 d", "7007 d [d", "7008 x..3", "7009 x..10", "7010 x..2",
        "7030-7039 n3 x..27", "8001 n14", "8002 8012 x..20", "8003 k14 [x..16", "8004 x..30",
        "8005 n6", "8006 8026 k14 n2 n2", "8007 x..34", "8008 d n2 [n2 [n2", "8011 n..12",
        "8013 8020 x..25", "8017 8018 k18", "8019 n..10",
    };

    static void run(Checks c) {
        List<String> known = new ArrayList<>();
        for (String line : LINES) {
            List<String> ais = new ArrayList<>();
            List<String> parts = new ArrayList<>();
            split(line, ais, parts);
            known.addAll(ais);
            for (String ai : ais) {
                shortest(c, ai, parts);
                longest(c, ai, parts);
            }
        }
        noOther(c, known);
    }

    static void split(String line, List<String> ais, List<String> parts) {
        for (String word : line.split(" ")) {
            if (word.charAt(0) < '0' || word.charAt(0) > '9') {
                parts.add(word);
                continue;
            }
            int p = word.indexOf('p');
            String range = p < 0 ? word : word.substring(0, p);
            String first = range.split("-")[0];
            String last = range.contains("-") ? range.split("-")[1] : first;
            for (int ai = Integer.parseInt(first); ai <= Integer.parseInt(last); ai++) {
                String digits = String.format("%0" + first.length() + "d", ai);
                if (p < 0) {
                    ais.add(digits);
                }
                for (int point = 0; p >= 0 && point <= word.charAt(p + 1) - '0'; point++) {
                    ais.add(digits + point);
                }
            }
        }
    }

    static boolean isOptional(String part) {
        return part.startsWith("[");
    }

    static String plain(String part) {
        return part.replace("[", "");
    }

    static int most(String part) {
        String plain = plain(part);
        if (plain.equals("d")) {
            return 6;
        }
        if (plain.equals("t")) {
            return 4;
        }
        return Integer.parseInt(plain.replaceAll("[a-z.]", ""));
    }

    static String sample(String part, int bytes) {
        String plain = plain(part);
        switch (plain.charAt(0)) {
            case 'x':
                return "Z".repeat(bytes);
            case 'd':
                return "250131";
            case 't':
                return "2359";
            default:
                return "0".repeat(bytes);
        }
    }

    /** What must stand ahead so that the WANTS of that AI are met. */
    static String companion(String ai) {
        if (ai.equals("02")) {
            return "(37)1";
        }
        if (ai.equals("37")) {
            return "(02)" + Checks.KEY14;
        }
        if (ai.matches("10|21|1[135-7]|31[0-6].|39[23].")) {
            return "(01)" + Checks.KEY14;
        }
        if (ai.matches("39[01].")) {
            return "(8020)A";
        }
        return ai.equals("90") ? "(91)A" : "(90)A";
    }

    private static void shortest(Checks c, String ai, List<String> parts) {
        StringBuilder value = new StringBuilder();
        List<String> used = new ArrayList<>();
        for (String part : parts) {
            if (!isOptional(part)) {
                value.append(sample(part, part.contains("..") ? 1 : most(part)));
                used.add(part);
            }
        }
        inspect(c, ai, used, value.toString());
        String cut = value.substring(0, value.length() - 1);
        c.faulty(3, ai.length() + 2 + cut.length(), "(" + ai + ")" + cut);
    }

    private static void longest(Checks c, String ai, List<String> parts) {
        StringBuilder value = new StringBuilder();
        for (String part : parts) {
            value.append(sample(part, most(part)));
        }
        inspect(c, ai, parts, value.toString());
        c.faulty(3, ai.length() + 2 + value.length(), "(" + ai + ")" + value + "0");
    }

    private static void inspect(Checks c, String ai, List<String> parts, String value) {
        LabelPress x = new LabelPress();
        String text = companion(ai) + "(" + ai + ")" + value;
        c.same("6 " + text, 2, Checks.readInBrackets(x, text));
        if (x.list(0) != 2) {
            return;
        }
        c.same("9 AI " + ai, Integer.parseInt(ai), x.element(1, 0));
        c.same("9 digits of " + ai, ai.length(), x.element(1, 1));
        c.same("9 bytes of " + ai, value.length(), x.element(1, 2));
        c.same("9 parts of " + ai, parts.size(), x.element(1, 3));
        boolean pointed = ai.matches("3[1-69]..");
        c.same("9 p of " + ai, pointed ? ai.charAt(3) - '0' : -1, x.element(1, 4));
        c.same("9 fixed " + ai, ai.matches("(0[0-2]|1[1-7]|20|3[1-6]|41).*") ? 1 : 0,
            x.element(1, 5));
        int begin = 0;
        for (int j = 0; j < parts.size(); j++) {
            c.same("11 sort", "?nxkdt".indexOf(plain(parts.get(j)).charAt(0)), x.part(1, j, 0));
            c.same("11 begin", begin, x.part(1, j, 1));
            int bytes = Math.min(most(parts.get(j)), value.length() - begin);
            c.same("11 bytes", bytes, x.part(1, j, 2));
            begin += bytes;
        }
        c.same("11 no further part", -1, x.part(1, parts.size(), 0));
    }

    private static void noOther(Checks c, List<String> known) {
        for (int digits = 1; digits <= 4; digits++) {
            for (int ai = 0; ai < Math.pow(10, digits); ai++) {
                String text = String.format("%0" + digits + "d", ai);
                LabelPress x = new LabelPress();
                Checks.readInBrackets(x, "(" + text + ")");
                c.same("6 AI " + text, known.contains(text) ? 3 : 2, x.fault(0));
            }
        }
    }
}
