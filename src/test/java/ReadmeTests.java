/** The example in README.md answers what is told there, behind each call. */
final class ReadmeTests {
    static void run(Checks c) {
        c.sentence("README.md", "How to use it");
        example(c);
        calls(c, Checks.projectText("README.md"),
            Checks.projectText("src/test/java/ReadmeTests.java"));
    }

    private static void example(Checks c) {
        LabelPress press = new LabelPress();
        press.feed(0x28303129, 0x30343031, 0x32333435, 0x31323334, 0x35362831);
        press.feed(0x37293235, 0x31323331, 0x28313029, 0x41424331, 0x32332020);
        press.end(38);
        int elements = press.read(true);
        c.same("elements", 3, elements);
        c.same("the text", "(01)04012345123456(17)251231(10)ABC123", Checks.outOf(press, true));
        int ai = press.element(1, 0);
        c.same("ai", 17, ai);
        int year = press.date(1, 0, 0);
        c.same("year", 2025, year);
        long key = press.number(0, 0);
        c.same("key", 4012345123456L, key);
        int bytes = press.write(false);
        c.same("bytes", 32, bytes);
        c.same("OUT's first byte", '0', press.out(0));
        int inSymbol = press.symbol(0);
        c.same("in the symbol", 3, inSymbol);
        int modules = press.print();
        c.same("modules", 286, modules);
        press.turn();
        int scanned = press.scan();
        c.same("scanned", 3, scanned);
        int fromRight = press.scanned(2);
        c.same("from the right", 1, fromRight);
        press.cut(100);
        int none = press.scan();
        c.same("none", LabelPress.NONE, none);
        int fault = press.fault(0);
        c.same("fault", 12, fault);
        int place = press.fault(1);
        c.same("place", 10, place);
    }

    /** Each call of the example is one of those above. */
    private static void calls(Checks c, String readme, String tests) {
        String block = readme.substring(readme.indexOf("```java"));
        block = block.substring(0, block.indexOf("\n```"));
        int calls = 0;
        for (String line : block.split("\n")) {
            int end = line.indexOf(';');
            if (end >= 0 && !line.startsWith("//")) {
                calls++;
                c.yes(line, tests.contains("\n        " + line.substring(0, end + 1) + "\n"));
            }
        }
        c.same("calls of the example", 18, calls);
    }
}
