/** Runs every test of the project; exit code 1 if one fails. */
public final class AllTests {
    public static void main(String[] args) {
        Checks c = new Checks();
        TapeTests.run(c);
        ReadTests.run(c);
        TableTests.run(c);
        ElementTests.run(c);
        ListTests.run(c);
        SymbolTests.run(c);
        ScanTests.run(c);
        FaceTests.run(c);
        LanguageTests.run(c);
        AgainTests.run(c);
        BoundaryTests.run(c);
        ReadmeTests.run(c);
        System.out.println(c.passed() + " passed, " + c.failed() + " failed; " + c.sentences()
            + " sentences with a test of their own");
        System.exit(c.failed() == 0 ? 0 : 1);
    }
}
