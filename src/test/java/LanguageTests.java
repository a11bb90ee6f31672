import java.util.regex.Matcher;
import java.util.regex.Pattern;

/** Those rules of LANGUAGE.md that the text of the program shows (the face is in FaceTests). */
final class LanguageTests {
    private static final String[] RULED_OUT = {
        "import ", "package ", "->", "::", "try", "catch", "finally", "synchronized", "assert",
        "double", "float", "static {", "Exact(", "new Thread", "protected", "instanceof",
        "hashCode", "toString", "new Random", "java.io", "java.time",
    };

    static void run(Checks c) {
        String source = Checks.projectText("src/main/java/LabelPress.java");
        String code = source.replaceAll("(?s)/\\*.*?\\*/", "").replaceAll("//[^\n]*", "")
            .replaceAll("'.'|'\\\\.'", "0").replaceAll("\"(\\\\.|[^\"\\\\])*\"", "0");
        for (int i = 0; i < source.length(); i++) {
            if (source.charAt(i) > 126) {
                c.same("a sign that is no ASCII at " + i, 0, source.charAt(i));
            }
        }
        c.sentence("LANGUAGE.md", "what is ruled out, or not needed");
        for (String word : RULED_OUT) {
            String found = word.matches("\\w+") ? "\\b" + word + "\\b" : Pattern.quote(word);
            c.no(word, Pattern.compile(found).matcher(code).find());
        }
        classes(c, code);
        methods(c, code);
        exceptions(c, code);
    }

    private static int count(String text, String pattern) {
        return (int) Pattern.compile(pattern).matcher(text).results().count();
    }

    private static void classes(Checks c, String code) {
        c.sentence("LANGUAGE.md 11", "the file has at most some twelve classes, and a class some "
            + "twenty fields beside its constants");
        c.yes("twelve classes", count(code, "\\b(class|record|enum|interface) ") <= 12);
        for (String text : code.split("\\bclass ")) {
            String name = text.split(" ")[0];
            c.yes("fields of " + name, count(text, "\n +private (final )?[\\w\\[\\]]+ \\w+;") <= 20);
        }
        c.sentence("LANGUAGE.md 5", "Static fields are final");
        c.same("others", 0, count(code, "\n +((public|private) )?static (?!final|class)[^({]*[;=]"));
    }

    private static void methods(Checks c, String code) {
        c.sentence("LANGUAGE.md 11", "A method takes at most seven parameters. Methods stay short");
        Matcher head = Pattern.compile("\n( +)[\\w\\[\\] ]*?(\\w+)\\(([^()]*)\\)[^;{}=]*\\{\n").matcher(code);
        int methods = 0;
        while (head.find()) {
            String name = head.group(2);
            if (!name.matches("if|for|while|switch")) {
                methods++;
                c.yes("parameters of " + name, head.group(3).split(",").length <= 7);
                int end = code.indexOf("\n" + head.group(1) + "}", head.end() - 1);
                c.yes("lines of " + name, end > 0
                    && code.substring(head.start(), end).split("\n").length <= 60);
            }
        }
        c.yes("methods were found", methods > 150);
    }

    private static void exceptions(Checks c, String code) {
        c.sentence("LANGUAGE.md 6", "throw new E(\"a written text\"), as the document says");
        Matcher thrown = Pattern.compile("\\bthrow\\b([^;]*);").matcher(code);
        int statements = 0;
        while (thrown.find()) {
            statements++;
            c.yes(thrown.group(), thrown.group(1).matches(" new (IllegalStateException"
                + "|IndexOutOfBoundsException|java\\.util\\.NoSuchElementException)\\(0\\)"));
        }
        c.yes("they were found", statements > 0);
    }
}
