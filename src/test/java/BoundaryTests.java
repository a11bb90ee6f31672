/** Each sentence of the document that names a bound or a refused call, with a test of its own. */
final class BoundaryTests {
    static void run(Checks c) {
        TableBoundaries.run(c);
        LineBoundaries.run(c);
        TextBoundaries.run(c);
        WantBoundaries.run(c);
        CallBoundaries.run(c);
        ListBoundaries.run(c);
        SymbolBoundaries.run(c);
        StripBoundaries.run(c);
        SetBoundaries.run(c);
    }
}
