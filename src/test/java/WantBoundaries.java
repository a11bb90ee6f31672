import java.util.ArrayList;
import java.util.List;

/** Terms, 2: WANTS, each with each AI of the table, ahead of it and behind it. */
final class WantBoundaries {
    // AIS that have a want (without p); + one of these, - none of these.
    private static final String[] WANTS = {
        "02 + 37", "37 + 02", "01 - 02", "10 + 01 02 8006 8026", "21 + 01 8006",
        "310 311 312 313 314 315 316 + 01 02", "392 393 + 01", "390 391 + 255 8020", "420 - 421",
        "8018 - 8017", "11 13 15 16 17 + 01 02 8006 8026",
    };

    // One ELEMENT of each kind of AI, and of each AI at the bounds of a kind.
    private static final String[] ELEMENTS = {
        "00 000000000000000000", "01 04012345123456", "02 04012345123456", "10 A", "21 A", "22 A",
        "11 250101", "12 250101", "13 250101", "15 250101", "16 250101", "17 250101", "20 12",
        "30 1", "37 1", "90 A", "99 A", "235 A", "240 A", "253 0000000000000", "255 0000000000000",
        "3100 123456", "3111 123456", "3122 123456", "3133 123456", "3144 123456", "3155 123456",
        "3160 123456", "3200 123456", "3905 1", "3910 9781", "3929 1", "3930 9781", "3940 1234",
        "3950 123456", "400 A", "402 00000000000000000", "410 0000000000000", "420 A", "421 276A",
        "422 276", "7003 2501012359", "8003 04012345123456", "8006 040123451234560102",
        "8017 000000000000000000", "8018 000000000000000000", "8019 1", "8020 A",
        "8026 040123451234560102",
    };

    static void run(Checks c) {
        c.sentence("Terms 2", "8 a WANT that is not met: each with each, wherever it stands");
        for (String one : ELEMENTS) {
            compare(c, one);
            for (String other : ELEMENTS) {
                compare(c, one, other);
                compare(c, "37 1", one, "02 04012345123456", other);
            }
        }
        c.sentence("Terms 2", "10 wants one of 01, 02, 8006, 8026: one of them is enough, and so are more");
        compare(c, "10 A", "01 04012345123456", "8006 040123451234560102");
        compare(c, "8026 040123451234560102", "10 A", "8006 040123451234560102");
        c.sentence("Terms 4", "the STRING's own FAULTS, but 8");
        scanned(c);
    }

    private static String familyOf(String element) {
        String ai = element.split(" ")[0];
        return ai.matches("3[1-69]..") ? ai.substring(0, 3) : ai;
    }

    private static boolean isMet(String family, List<String> families) {
        for (String want : WANTS) {
            String sign = want.contains("+") ? "+" : "-";
            String[] sides = want.split(" \\" + sign + " ");
            if (List.of(sides[0].split(" ")).contains(family)) {
                boolean some = false;
                for (String wanted : sides[1].split(" ")) {
                    some |= families.contains(wanted);
                }
                if (some != sign.equals("+")) {
                    return false;
                }
            }
        }
        return true;
    }

    private static void compare(Checks c, String... elements) {
        List<String> families = new ArrayList<>();
        for (String element : elements) {
            families.add(familyOf(element));
        }
        StringBuilder text = new StringBuilder();
        int fault = 0;
        int place = -1;
        for (int k = 0; k < elements.length; k++) {
            boolean again = families.indexOf(families.get(k)) < k;
            if (fault == 0 && (again || !isMet(families.get(k), families))) {
                fault = again ? 7 : 8;
                place = text.length() + 1;
            }
            text.append('(').append(elements[k].replace(" ", ")"));
        }
        c.faulty(fault, place, text.toString());
    }

    private static void scanned(Checks c) {
        for (String element : ELEMENTS) {
            String string = element.replace(" ", "");
            int[] data = new int[string.length()];
            for (int i = 0; i < data.length; i++) {
                data[i] = string.charAt(i) - 32;
            }
            LabelPress x = new LabelPress();
            Checks.draw(x, Checks.modulesOf(Checks.framed(104, data)));
            c.same("scanned alone " + element, 1, x.scan());
            c.same("without a fault", 0, x.fault(0));
        }
        // 01 with 02, 420 with 421, 8018 with 8017: none of them is a FAULT here.
        LabelPress x = new LabelPress();
        Checks.draw(x, Checks.modulesOf(Checks.framed(105, 1, 4, 1, 23, 45, 12, 34, 56, 2, 4, 1, 23,
            45, 12, 34, 56)));
        c.same("01 with 02", 2, x.scan());
        Checks.draw(x, Checks.modulesOf(Checks.framed(104, 20, 18, 16, 33, 102, 20, 18, 17, 18, 23, 22,
            33)));
        c.same("420 with 421", 2, x.scan());
    }
}
