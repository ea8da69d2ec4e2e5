import java.lang.reflect.Constructor;
import java.lang.reflect.Field;
import java.lang.reflect.Method;
import java.lang.reflect.Modifier;
import java.util.Arrays;
import java.util.Set;
import java.util.TreeSet;

/** The public face is that of the document and nothing else is visible. */
public final class FaceTest {
    private static final String[] FACE = {
        "boolean load(int, int, int, int)", "int spawn(int, int)", "int inject(int, int)",
        "int step()", "int run(int)", "int tick()", "int status(int)", "int register(int, int)",
        "int place(int)", "int mail(int)", "int message(int, int)", "boolean linked(int, int)",
        "int supervisor(int)", "int restarts(int)", "int queue(int)", "int room()", "int lost()",
        "int timers()", "int output(int)", "int author(int)",
    };

    private FaceTest() {
    }

    public static void main(String[] args) {
        methods();
        constructorsAndFields();
        nestedClasses();
        constants();
        Check.finish();
    }

    private static void methods() {
        Set<String> face = new TreeSet<>();
        Set<String> publicNames = new TreeSet<>();
        for (Method m : MailYard.class.getDeclaredMethods()) {
            if (!Modifier.isPrivate(m.getModifiers())) {
                face.add(signature(m));
                publicNames.add(m.getName());
                Check.due(m.getName() + " is public", Modifier.isPublic(m.getModifiers()), true);
                Check.due(m.getName() + " is static", Modifier.isStatic(m.getModifiers()), false);
            }
        }
        Set<String> want = new TreeSet<>(Arrays.asList(FACE));
        Check.due("methods " + face + " are " + want, face.equals(want), true);
        for (Method m : MailYard.class.getDeclaredMethods()) {
            if (Modifier.isPrivate(m.getModifiers())) {
                Check.due("private " + m.getName() + " bears a public name",
                        publicNames.contains(m.getName()), false);
            }
        }
    }

    private static String signature(Method m) {
        StringBuilder text = new StringBuilder(m.getReturnType() + " " + m.getName() + "(");
        Class<?>[] types = m.getParameterTypes();
        for (int i = 0; i < types.length; i++) {
            text.append(i == 0 ? "" : ", ").append(types[i]);
        }
        return text.append(")").toString();
    }

    private static void constructorsAndFields() {
        Constructor<?>[] constructors = MailYard.class.getDeclaredConstructors();
        Check.due("constructors", constructors.length, 1);
        Check.due("constructor is public", Modifier.isPublic(constructors[0].getModifiers()), true);
        Check.due("its parameters", constructors[0].getParameterCount(), 0);
        for (Field f : MailYard.class.getDeclaredFields()) {
            boolean named = Set.of("BAD", "FULL", "DEAD").contains(f.getName());
            Check.due(f.getName() + " is public", Modifier.isPublic(f.getModifiers()), named);
            Check.due(f.getName() + " is private", Modifier.isPrivate(f.getModifiers()), !named);
            if (Modifier.isStatic(f.getModifiers())) {
                Check.due(f.getName() + " is final", Modifier.isFinal(f.getModifiers()), true);
            }
        }
    }

    private static void nestedClasses() {
        Class<?>[] nested = MailYard.class.getDeclaredClasses();
        Check.due("at most twelve classes", nested.length < 12, true);
        for (Class<?> c : nested) {
            int m = c.getModifiers();
            Check.due(c + " is static", Modifier.isStatic(m), true);
            Check.due(c + " is public or protected",
                    Modifier.isPublic(m) || Modifier.isProtected(m), false);
        }
        Check.due("final", Modifier.isFinal(MailYard.class.getModifiers()), true);
        Check.due("public", Modifier.isPublic(MailYard.class.getModifiers()), true);
    }

    private static void constants() {
        Check.due("BAD", MailYard.BAD, -1);
        Check.due("FULL", MailYard.FULL, -2);
        Check.due("DEAD", MailYard.DEAD, -3);
    }
}
