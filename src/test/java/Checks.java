import java.io.IOException;
import java.nio.file.Files;
import java.nio.file.Path;

/** Counts checks, and does for tests what takes several calls: typing texts, drawing strips. */
final class Checks {
    static final String KEY14 = "04012345123456";

    private static final String[] WIDTHS = (
        "212222 222122 222221 121223 121322 131222 122213 122312 132212 221213 221312 231212 "
        + "112232 122132 122231 113222 123122 123221 223211 221132 221231 213212 223112 312131 "
        + "311222 321122 321221 312212 322112 322211 212123 212321 232121 111323 131123 131321 "
        + "112313 132113 132311 211313 231113 231311 112133 112331 132131 113123 113321 133121 "
        + "313121 211331 231131 213113 213311 213131 311123 311321 331121 312113 312311 332111 "
        + "314111 221411 431111 111224 111422 121124 121421 141122 141221 112214 112412 122114 "
        + "122411 142112 142211 241211 221114 413111 241112 134111 111242 121142 121241 114212 "
        + "124112 124211 411212 421112 421211 212141 214121 412121 111143 111341 131141 114113 "
        + "114311 411113 411311 113141 114131 311141 411131 211412 211214 211232 2331112").split(" ");

    private int passed;
    private int failed;
    private int sentences;
    private String sentence = "";

    /** A call that may throw. */
    interface Call {
        long answer();
    }

    int passed() {
        return passed;
    }

    int failed() {
        return failed;
    }

    int sentences() {
        return sentences;
    }

    /** What is checked from now on is for these words of that promise, or of those Terms. */
    void sentence(String where, String words) {
        sentences++;
        sentence = "[" + where + ": " + words + "] ";
    }

    void same(String what, long due, long got) {
        same(what, Long.toString(due), Long.toString(got));
    }

    void same(String what, String due, String got) {
        if (due.equals(got)) {
            passed++;
        } else {
            failed++;
            System.out.println(sentence + what + ": due is " + due + ", answered " + got);
        }
    }

    void yes(String what, boolean got) {
        same(what, 1, got ? 1 : 0);
    }

    void no(String what, boolean got) {
        same(what, 0, got ? 1 : 0);
    }

    /** The exception must be of that very class: the machine's own ones are of classes below. */
    void fails(String what, Class<?> due, Call call) {
        String got = "nothing thrown";
        try {
            call.answer();
        } catch (RuntimeException thrown) {
            got = thrown.getClass().getName();
        }
        same(what, due.getName(), got);
    }

    /** Reads the text, whose FAULT and place must be these (0 and NONE without). */
    void faulty(int fault, int place, LabelPress x, String text, boolean inBrackets) {
        type(x, text);
        int answer = x.read(inBrackets);
        String what = (inBrackets ? "in brackets " : "string ") + text.replace((char) 29, '~');
        same(what + " fault", fault, x.fault(0));
        same(what + " place", place, x.fault(1));
        same(what + " answer", fault == 0 ? x.list(0) : LabelPress.NONE, answer);
    }

    void faulty(int fault, int place, String text) {
        faulty(fault, place, new LabelPress(), text, true);
    }

    /** As above for a STRING, in which ~ stands for a byte 29. */
    void faultyString(int fault, int place, String text) {
        faulty(fault, place, new LabelPress(), text.replace('~', (char) 29), false);
    }

    /** A press whose list was read from that text in brackets. */
    static LabelPress pressWith(String text) {
        LabelPress x = new LabelPress();
        readInBrackets(x, text);
        return x;
    }

    static int readInBrackets(LabelPress x, String text) {
        type(x, text);
        return x.read(true);
    }

    static int readString(LabelPress x, String text) {
        type(x, text.replace('~', (char) 29));
        return x.read(false);
    }

    /** The tape has that text and no other. */
    static void type(LabelPress x, String text) {
        x.end(0);
        for (int i = 0; i < text.length(); i += 20) {
            x.feed(word(text, i), word(text, i + 4), word(text, i + 8), word(text, i + 12),
                word(text, i + 16));
        }
        x.end(text.length());
    }

    private static int word(String text, int from) {
        int word = 0;
        for (int i = from; i < from + 4; i++) {
            word = word << 8 | (i < text.length() ? text.charAt(i) : ' ');
        }
        return word;
    }

    /** The strip has these MODULES (0, 1) and no others. */
    static void draw(LabelPress x, String modules) {
        x.cut(0);
        for (int i = 0; i < modules.length(); i += 160) {
            // No more than 2000 go on: the last ones stand on ground that was drawn already.
            int from = Math.min(i, 2000 - 160);
            x.cut(from);
            x.bars(bits(modules, from), bits(modules, from + 32), bits(modules, from + 64),
                bits(modules, from + 96), bits(modules, from + 128));
        }
        x.cut(modules.length());
    }

    /** MODULES for a message: many of them at either end are told by how many they are. */
    static String brief(String modules) {
        int n = modules.length();
        return n <= 120 ? modules
            : modules.substring(0, 50) + " .. " + (n - 100) + " more .. " + modules.substring(n - 50);
    }

    private static int bits(String modules, int from) {
        int bits = 0;
        for (int i = from; i < from + 32; i++) {
            bits = bits << 1 | (i < modules.length() && modules.charAt(i) == '1' ? 1 : 0);
        }
        return bits;
    }

    static String outOf(LabelPress x, boolean inBrackets) {
        int n = x.write(inBrackets);
        StringBuilder text = new StringBuilder();
        for (int i = 0; i < n; i++) {
            text.append((char) x.out(i));
        }
        return text.toString().replace((char) 29, '~');
    }

    static String stripOf(LabelPress x) {
        StringBuilder modules = new StringBuilder();
        int module = x.module(0);
        // Each MODULE is asked once: an object is used for 512 calls, no more.
        for (int i = 1; module != LabelPress.NONE; i++) {
            modules.append(module);
            module = x.module(i);
        }
        return modules.toString();
    }

    static String symbolOf(LabelPress x) {
        StringBuilder characters = new StringBuilder();
        int character = x.character(0);
        for (int i = 1; character != LabelPress.NONE; i++) {
            characters.append(i == 1 ? "" : " ").append(character);
            character = x.character(i);
        }
        return characters.toString();
    }

    /** These digits and their CHECK. */
    static String keyOf(String digits) {
        int sum = 0;
        for (int i = 0; i < digits.length(); i++) {
            int fromLast = digits.length() - 1 - i;
            sum += (digits.charAt(i) - '0') * (fromLast % 2 == 0 ? 3 : 1);
        }
        return digits + (10 - sum % 10) % 10;
    }

    static int checkOf(int... characters) {
        int sum = characters[0];
        for (int i = 1; i < characters.length; i++) {
            sum += i * characters[i];
        }
        return sum % 103;
    }

    /** START, FNC1, these, the CHECK, STOP. */
    static int[] framed(int start, int... data) {
        int[] head = new int[data.length + 2];
        head[0] = start;
        head[1] = 102;
        System.arraycopy(data, 0, head, 2, data.length);
        return closed(head);
    }

    /** These, the CHECK, STOP. */
    static int[] closed(int... head) {
        int[] all = java.util.Arrays.copyOf(head, head.length + 2);
        all[head.length] = checkOf(head);
        all[head.length + 1] = 106;
        return all;
    }

    static String modulesOf(int... characters) {
        StringBuilder modules = new StringBuilder();
        for (int character : characters) {
            String widths = WIDTHS[character];
            for (int i = 0; i < widths.length(); i++) {
                modules.append((i % 2 == 0 ? "1" : "0").repeat(widths.charAt(i) - '0'));
            }
        }
        return modules.toString();
    }

    /** A file of the project, which lies where .ci/run tells. */
    static String projectText(String file) {
        String root = System.getProperty("project.root", ".");
        try {
            return Files.readString(Path.of(root, file));
        } catch (IOException missing) {
            throw new IllegalStateException("no " + file + " under " + root);
        }
    }

    static String reversed(String text) {
        return new StringBuilder(text).reverse().toString();
    }
}
