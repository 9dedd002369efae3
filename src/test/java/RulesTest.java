import java.lang.reflect.Field;
import java.lang.reflect.Member;
import java.lang.reflect.Method;
import java.lang.reflect.Modifier;
import java.util.ArrayList;
import java.util.Arrays;
import java.util.HashSet;
import java.util.List;
import java.util.Random;
import java.util.Set;
import java.util.TreeSet;

/** The face of the document, what its classes have, and that nothing throws. */
public final class RulesTest {

    private static final Checks C = new Checks("RulesTest");

    private static final String FACE = """
            int status(); long top(); long bottom(); boolean tray(int int int);
            boolean write(int int long); long read(int int); boolean pour(int int int int int);
            int feed(int int int int int); int book(int); int fault(int); int told(int);
            int view(int); int point(int int); boolean move(int int); boolean keep(int boolean);
            int lines(int int); int lies(int int int); int bend(int int int); int unfair(int int);
            int unfairAll(); int where(int int); long strain(int int);
            boolean lath(int int int int); int rounds(int); int ended(int); int least(int int int);
            int leastMove(int); int slips(); int slip(int int); int way(int); int run();
            int ran(int); int given(int); int crook(int); int ribs(int int); int rib(int);
            boolean bevel(int); int width(int int); int length(int); int banana(int);
            int planks(int); int plank(int); int wet(int int int); int boat(int int int int);
            int apart(int int int int); int built(int int int int int int int);
            boolean volume(int); boolean centre(int); boolean carried(int int int); int mark();
            int back();
            """;

    public static void main(String[] args) throws ReflectiveOperationException {
        face();
        classes();
        storm();
        C.end();
    }

    private static String signature(Method m) {
        StringBuilder text = new StringBuilder(m.getReturnType() + " " + m.getName() + "(");
        for (Class<?> type : m.getParameterTypes()) {
            text.append(text.charAt(text.length() - 1) == '(' ? "" : " ").append(type);
        }
        return text.append(")").toString();
    }

    private static void face() throws ReflectiveOperationException {
        Set<String> want = new TreeSet<>();
        for (String one : FACE.split(";")) {
            if (!one.isBlank()) {
                want.add(one.strip());
            }
        }
        Set<String> got = new TreeSet<>();
        Set<String> names = new HashSet<>();
        for (Method m : FairLines.class.getDeclaredMethods()) {
            if (!Modifier.isPrivate(m.getModifiers())) {
                C.due("public " + m, Modifier.isPublic(m.getModifiers()), true);
                C.due("of an object " + m, Modifier.isStatic(m.getModifiers()), false);
                got.add(signature(m));
                names.add(m.getName());
            }
        }
        C.due("the face is " + want + ", not " + got, got.equals(want), true);
        C.due("methods", want.size(), 51);
        C.due("NONE", FairLines.class.getField("NONE").getInt(null), -1);
        C.due("fields that can be seen", FairLines.class.getFields().length, 1);
        C.due("constructors", FairLines.class.getDeclaredConstructors().length, 1);
        C.due("final", Modifier.isFinal(FairLines.class.getModifiers()), true);
        for (Class<?> c : all()) {
            for (Method m : c.getDeclaredMethods()) {
                boolean isPrivate = Modifier.isPrivate(m.getModifiers());
                C.due(c + " has " + m.getName() + " too", isPrivate && names.contains(m.getName()),
                        false);
            }
        }
    }

    private static List<Class<?>> all() {
        List<Class<?>> all = new ArrayList<>();
        all.add(FairLines.class);
        all.addAll(Arrays.asList(FairLines.class.getDeclaredClasses()));
        return all;
    }

    private static void classes() {
        C.due("at most twelve classes", all().size() <= 12, true);
        for (Class<?> c : all()) {
            if (c != FairLines.class) {
                C.due(c + " is static", Modifier.isStatic(c.getModifiers()), true);
                C.due(c + " is not public", Modifier.isPublic(c.getModifiers()), false);
            }
            int own = 0;
            for (Field f : c.getDeclaredFields()) {
                boolean isStatic = Modifier.isStatic(f.getModifiers());
                own += isStatic ? 0 : 1;
                C.due(f + " is final", !isStatic || Modifier.isFinal(f.getModifiers()), true);
                C.due(f + " can be seen", c == FairLines.class && isSeen(f)
                        && !f.getName().equals("NONE"), false);
            }
            C.due(c + " has " + own + " fields", own <= 20, true);
        }
    }

    private static boolean isSeen(Member m) {
        return !Modifier.isPrivate(m.getModifiers());
    }

    /** Any arguments in any state: an exception would end the test. */
    private static void storm() throws ReflectiveOperationException {
        Random random = new Random(11);
        int[] odd = {Integer.MIN_VALUE, Integer.MIN_VALUE + 1, -64, -9, -2, -1, 0, 1, 2, 3, 4, 5, 7,
            8, 9, 16, 20, 40, 59, 60, 61, 63, 64, 65, 99, 255, 256, 600, 999, 1000, 9999, 1 << 16,
            1 << 29, 1 << 30, Integer.MAX_VALUE - 1, Integer.MAX_VALUE};
        String[] books = {"row 1 2 3 4 5 6;".repeat(8), "row 1 2 3;", "row 9 0 9 0;row 0 9 0 9;"
            + "row 99 0 9 0;row 0 9 0 9;row 9 1 9 1;", ""};
        Method[] methods = FairLines.class.getMethods();
        Arrays.sort(methods, (a, b) -> signature(a).compareTo(signature(b)));
        for (int run = 0; run < 60; run++) {
            FairLines x = Checks.withBook(books[run % books.length]);
            Checks.way(x, "until 9;bend slants 5 at 0 3;ease 60;when;move 1 1 400;end;end;");
            Checks.fill(x, 0, run % 4, 0, 1, 2, 9, 10, 11, 300, 301, 1, 0, 0, 0, 8, 16);
            for (int call = 0; call < 3000; call++) {
                Method m = methods[random.nextInt(methods.length)];
                if (m.getDeclaringClass() == FairLines.class && !m.getName().equals("book")) {
                    m.invoke(x, arguments(m, random, odd));
                    C.due("bottom above 0", x.bottom() > 0, true);
                    C.due("a STATUS", x.status() >= 0 && x.status() <= 9, true);
                }
            }
        }
    }

    private static Object[] arguments(Method m, Random random, int[] odd) {
        Object[] given = new Object[m.getParameterCount()];
        for (int i = 0; i < given.length; i++) {
            Class<?> type = m.getParameterTypes()[i];
            int some = random.nextInt(3) == 0 ? odd[random.nextInt(odd.length)]
                    : random.nextInt(12);
            if (type == int.class) {
                given[i] = some;
            } else if (type == long.class) {
                given[i] = random.nextBoolean() ? (long) some : random.nextLong();
            } else {
                given[i] = random.nextBoolean();
            }
        }
        return given;
    }
}
