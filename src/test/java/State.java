/** Shows of refused calls that they did nothing, and of thrown ones that they changed nothing. */
final class State {
    /** A call on a press. */
    interface On {
        long answer(LabelPress x);
    }

    /** All that a press tells of itself by calls that change nothing. */
    static String of(LabelPress x) {
        StringBuilder told = new StringBuilder();
        for (int k = 0; k < x.list(0); k++) {
            told.append(x.element(k, 0)).append('/').append(x.element(k, 1)).append('=');
            for (int i = 0; i < x.element(k, 2); i++) {
                told.append((char) x.letter(k, i));
            }
            if (x.part(k, 0, 0) == 4) {
                told.append(" in ").append(x.date(k, 0, 0));
            }
            told.append(' ');
        }
        told.append("fault ").append(x.fault(0)).append(" at ").append(x.fault(1)).append(" out ");
        for (int i = 0; x.out(i) != LabelPress.NONE; i++) {
            told.append((char) x.out(i));
        }
        told.append(" symbol ").append(Checks.symbolOf(x)).append(" strip ");
        told.append(Checks.stripOf(x)).append(" scanned");
        for (int what = 0; what < 3; what++) {
            told.append(' ').append(x.scanned(what));
        }
        told.append(" same ");
        for (int shelf = 0; shelf < 8; shelf++) {
            told.append(x.same(shelf) ? 1 : 0);
        }
        return told.toString();
    }

    /** A press with something everywhere: no two places have the same. */
    private static LabelPress busy() {
        LabelPress x = Checks.pressWith("(90)A");
        x.shelve(3);
        x.write(true);
        x.symbol(0);
        x.print();
        x.scan();
        x.cut(25);
        Checks.readInBrackets(x, "(20)12(7006)250131");
        x.clock(2060);
        Checks.type(x, "(7006)100131");
        return x;
    }

    /** The call answers that, and the press is as it was. */
    static void refused(Checks c, String what, long due, On call) {
        LabelPress x = busy();
        String before = of(x);
        c.same(what + " answers", due, call.answer(x));
        asBefore(c, what, before, x);
    }

    /** The call throws just that, and the press is as it was. */
    static void thrown(Checks c, String what, Class<?> due, On call) {
        LabelPress x = busy();
        String before = of(x);
        c.fails(what, due, () -> call.answer(x));
        asBefore(c, what, before, x);
    }

    private static void asBefore(Checks c, String what, String before, LabelPress x) {
        c.same(what + " changed nothing", before, of(x));
        tapeAndClock(c, what, x);
    }

    /** The list, the symbol and all others are as they were; the tape is empty, and the fault new. */
    static void badText(Checks c, String text) {
        LabelPress x = busy();
        String before = of(x);
        Checks.type(x, text);
        c.same("a bad text " + text, LabelPress.NONE, x.read(true));
        c.same("it stays with " + text, withoutFault(before), withoutFault(of(x)));
        c.no("the tape is empty after " + text, x.end(1));
    }

    /** As above of a strip: the tape stays, and so does what scanned() tells, if that is asked. */
    static void badStrip(Checks c, String modules, boolean asksScanned) {
        LabelPress x = busy();
        Checks.draw(x, modules);
        String before = withoutFault(of(x));
        c.same("a bad strip", LabelPress.NONE, x.scan());
        String after = withoutFault(of(x));
        if (!asksScanned) {
            before = before.replaceAll("scanned .* same", "same");
            after = after.replaceAll("scanned .* same", "same");
        }
        c.same("it stays with a bad strip", before, after);
        tapeAndClock(c, "a bad strip", x);
    }

    private static String withoutFault(String told) {
        return told.replaceAll("fault .* out", "out");
    }

    private static void tapeAndClock(Checks c, String what, LabelPress x) {
        c.no(what + " put nothing on the tape", x.end(13));
        c.yes(what + " took nothing from the tape", x.end(12));
        c.same(what + " left the tape", 1, x.read(true));
        c.same(what + " left the clock", 2110, x.date(0, 0, 0));
    }
}
