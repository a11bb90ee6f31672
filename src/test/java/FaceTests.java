import java.lang.reflect.Constructor;
import java.lang.reflect.Field;
import java.lang.reflect.Method;
import java.lang.reflect.Modifier;
import java.util.Arrays;
import java.util.NoSuchElementException;
import java.util.Random;
import java.util.TreeSet;

/** The public face, and that nothing but what the document names is ever thrown. */
final class FaceTests {
    private static final String[] FACE = {
        "int arrange()", "int bars(int,int,int,int,int)", "int character(int)", "int check()",
        "boolean clock(int)", "boolean cut(int)", "int date(int,int,int)", "int element(int,int)",
        "boolean end(int)", "int fault(int)", "int feed(int,int,int,int,int)", "int fetch(int)",
        "int find(int,int)", "int ink(int,boolean)", "int join(int)", "int letter(int,int)",
        "int list(int)", "int module(int)", "long number(int,int)", "int out(int)",
        "int part(int,int,int)", "int print()", "int read(boolean)", "boolean same(int)",
        "int scan()", "int scanned(int)", "int shelve(int)", "int symbol(int)", "int take()",
        "int turn()", "int write(boolean)",
    };

    static void run(Checks c) {
        face(c);
        for (int seed = 0; seed < 300; seed++) {
            nothingElseThrown(c, new Random(seed));
        }
    }

    private static void face(Checks c) {
        TreeSet<String> names = new TreeSet<>();
        TreeSet<String> methods = new TreeSet<>();
        TreeSet<String> others = new TreeSet<>();
        for (Method method : LabelPress.class.getDeclaredMethods()) {
            if (Modifier.isPublic(method.getModifiers())) {
                methods.add(signature(method));
                names.add(method.getName());
            } else {
                c.yes(method.getName() + " is private", Modifier.isPrivate(method.getModifiers()));
                others.add(method.getName());
            }
        }
        c.same("the face", new TreeSet<>(Arrays.asList(FACE)).toString(), methods.toString());
        others.retainAll(names);
        c.same("private methods with a public name", "[]", others.toString());
        for (Field field : LabelPress.class.getDeclaredFields()) {
            boolean isPublic = Modifier.isPublic(field.getModifiers());
            c.same(field.getName(), field.getName().equals("NONE") ? 1 : 0, isPublic ? 1 : 0);
            c.yes(field.getName(), isPublic || Modifier.isPrivate(field.getModifiers()));
        }
        Constructor<?>[] constructors = LabelPress.class.getDeclaredConstructors();
        c.same("constructors", 1, constructors.length);
        c.same("constructor", "public LabelPress()", constructors[0].toString());
        c.yes("final", Modifier.isFinal(LabelPress.class.getModifiers()));
        for (Class<?> inner : LabelPress.class.getDeclaredClasses()) {
            c.yes(inner.getName(), Modifier.isPrivate(inner.getModifiers())
                && Modifier.isStatic(inner.getModifiers()));
            for (Method method : inner.getDeclaredMethods()) {
                c.no(inner.getName() + "." + method.getName(),
                    Modifier.isPrivate(method.getModifiers()) && names.contains(method.getName()));
            }
        }
    }

    private static String signature(Method method) {
        StringBuilder text = new StringBuilder();
        text.append(method.getReturnType()).append(' ').append(method.getName()).append('(');
        for (Class<?> type : method.getParameterTypes()) {
            text.append(text.charAt(text.length() - 1) == '(' ? "" : ",").append(type);
        }
        return text.append(')').toString();
    }

    private static void nothingElseThrown(Checks c, Random random) {
        LabelPress x = new LabelPress();
        // A text that is typed and read takes up to nine of the 512 calls.
        int calls = 0;
        while (calls < 500) {
            String thrown = "";
            int call = random.nextInt(FACE.length + 6);
            calls += call < FACE.length ? 1 : 9;
            try {
                some(x, call, random);
            } catch (RuntimeException exception) {
                Class<?> sort = exception.getClass();
                boolean named = sort == IndexOutOfBoundsException.class
                    || sort == NoSuchElementException.class || sort == IllegalStateException.class;
                thrown = named ? "" : exception.toString();
            }
            if (!thrown.isEmpty()) {
                c.same("call " + call, "", thrown);
            }
        }
        c.same("nothing else is thrown", -1, x.fault(2));
    }

    private static int number(Random random) {
        switch (random.nextInt(8)) {
            case 0:
                return random.nextInt();
            case 1:
                return random.nextBoolean() ? Integer.MAX_VALUE : Integer.MIN_VALUE;
            case 2:
                return random.nextInt(2000);
            default:
                return random.nextInt(10) - 2;
        }
    }

    private static int shelf(Random random) {
        return random.nextInt(10) == 0 ? number(random) : random.nextInt(3);
    }

    private static void some(LabelPress x, int call, Random r) {
        String[] texts = {"(01)" + Checks.KEY14 + "(10)A\\(", "(90)A(7007)250101250200", "(99)",
            "(8008)2502011200(253)4012345123456X", "(91)" + "z".repeat(90), "(20)12(410)", "\\"};
        switch (call) {
            case 0: x.arrange(); break;
            case 1: x.bars(r.nextInt(), r.nextInt(), r.nextInt(), r.nextInt(), r.nextInt()); break;
            case 2: x.character(number(r)); break;
            case 3: x.check(); break;
            case 4: x.clock(1940 + r.nextInt(270)); break;
            case 5: x.cut(number(r)); break;
            case 6: x.date(number(r), number(r), number(r)); break;
            case 7: x.element(number(r), number(r)); break;
            case 8: x.end(number(r)); break;
            case 9: x.fault(number(r)); break;
            case 10: x.feed(r.nextInt(), r.nextInt(), r.nextInt(), r.nextInt(), r.nextInt()); break;
            case 11: x.fetch(shelf(r)); break;
            case 12: x.find(number(r), number(r)); break;
            case 13: x.ink(number(r), r.nextBoolean()); break;
            case 14: x.join(shelf(r)); break;
            case 15: x.letter(number(r), number(r)); break;
            case 16: x.list(number(r)); break;
            case 17: x.module(number(r)); break;
            case 18: x.number(number(r), number(r)); break;
            case 19: x.out(number(r)); break;
            case 20: x.part(number(r), number(r), number(r)); break;
            case 21: x.print(); break;
            case 22: x.read(r.nextBoolean()); break;
            case 23: x.same(shelf(r)); break;
            case 24: x.scan(); break;
            case 25: x.scanned(number(r)); break;
            case 26: x.shelve(shelf(r)); break;
            case 27: x.symbol(number(r)); break;
            case 28: x.take(); break;
            case 29: x.turn(); break;
            case 30: x.write(r.nextBoolean()); break;
            default:
                Checks.type(x, texts[r.nextInt(texts.length)]);
                x.read(true);
        }
    }
}
