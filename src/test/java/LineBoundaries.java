import java.util.ArrayList;
import java.util.List;

/** Terms, 1 and 2: each AI of the table with VALUES of each length, and with each byte broken. */
final class LineBoundaries {
    static void run(Checks c) {
        for (String line : TableTests.LINES) {
            List<String> ais = new ArrayList<>();
            List<String> parts = new ArrayList<>();
            TableTests.split(line, ais, parts);
            c.sentence("Terms 1", line);
            for (String ai : ais) {
                lengths(c, ai, parts);
                brokenBytes(c, ai, parts);
                brokenParts(c, ai, parts);
            }
        }
    }

    private static String longest(List<String> parts) {
        StringBuilder value = new StringBuilder();
        for (String part : parts) {
            value.append(TableTests.sample(part, TableTests.most(part)));
        }
        return value.toString();
    }

    private static boolean isFixed(String ai) {
        return ai.matches("(0[0-2]|1[1-7]|20|3[1-6]|41).*");
    }

    /** What ends a VALUE of so many bytes too soon or makes it too long: that byte; -1 if nothing. */
    private static int wrongAt(List<String> parts, int bytes) {
        int at = 0;
        for (String part : parts) {
            int left = bytes - at;
            int most = TableTests.most(part);
            if (TableTests.isOptional(part) && left == 0) {
                break;
            }
            if (left == 0 || left < most && !part.contains("..")) {
                return bytes;
            }
            at += Math.min(left, most);
        }
        return at < bytes ? at : -1;
    }

    private static void lengths(Checks c, String ai, List<String> parts) {
        String value = longest(parts);
        for (int bytes = 0; bytes <= value.length() + 1; bytes++) {
            String cut = bytes > value.length() ? value + "0" : value.substring(0, bytes);
            int wrong = wrongAt(parts, bytes);
            told(c, ai, cut, wrong == -1 ? 0 : 3, wrong);
        }
    }

    private static void brokenBytes(Checks c, String ai, List<String> parts) {
        String value = longest(parts);
        int at = 0;
        for (String part : parts) {
            for (int i = at; i < at + TableTests.most(part); i++) {
                told(c, ai, value.substring(0, i) + "#" + value.substring(i + 1), 4, i);
                boolean signs = TableTests.plain(part).startsWith("x");
                told(c, ai, value.substring(0, i) + "Q" + value.substring(i + 1), signs ? 0 : 4,
                    signs ? -1 : i);
            }
            at += TableTests.most(part);
        }
    }

    private static void brokenParts(Checks c, String ai, List<String> parts) {
        String value = longest(parts);
        int at = 0;
        for (String part : parts) {
            int end = at + TableTests.most(part);
            String head = value.substring(0, at);
            String tail = value.substring(end);
            switch (TableTests.plain(part).charAt(0)) {
                case 'k':
                    told(c, ai, head + "0".repeat(end - at - 1) + "1" + tail, 5, end - 1);
                    told(c, ai, head + "1" + "0".repeat(end - at - 1) + tail, 5, end - 1);
                    break;
                case 'd':
                    told(c, ai, head + "250132" + tail, 6, at);
                    told(c, ai, head + "250100" + tail, 0, -1);
                    break;
                case 't':
                    told(c, ai, head + "2400" + tail, 6, at);
                    told(c, ai, head + "0000" + tail, 0, -1);
                    break;
                default:
                    break;
            }
            at = end;
        }
    }

    /** The VALUE has that FAULT at its byte (0 and -1 without), read in brackets and as a STRING. */
    private static void told(Checks c, String ai, String value, int fault, int at) {
        String ahead = TableTests.companion(ai);
        int begin = ahead.length() + 2 + ai.length();
        c.faulty(fault, fault == 0 ? -1 : begin + at, ahead + "(" + ai + ")" + value);
        String string = ahead.substring(1).replace(")", "") + "~";
        // Behind a VALUE of a FIXED AI the next AI must begin: a byte too many is none.
        boolean over = fault == 3 && isFixed(ai) && at < value.length();
        begin = string.length() + ai.length();
        c.faultyString(over ? 2 : fault, fault == 0 ? -1 : begin + at, string + ai + value);
    }
}
