import java.lang.reflect.Constructor;
import java.lang.reflect.Field;
import java.lang.reflect.Method;
import java.lang.reflect.Modifier;
import java.util.Set;
import java.util.TreeSet;

/** The class shows the document's face and nothing else; its inside keeps to LANGUAGE.md as far as that shows here. */
final class FaceTest {
    private static final String[] FACE = {"int place()", "int way(int,int,int)", "int sees(int,int)",
        "int child(boolean,int,int,int,int)", "int bar(int,int)", "int join(int,int)", "int slip(int,int)",
        "int spare(int)", "int means(int,int)", "int row(int,int)", "int unrow(int)", "int put(int,int)",
        "int type(long,int)", "int clear()", "int house()", "int walk(int,int)", "int riddles(int,int)",
        "int length(int,int)", "int ends(int,int,int)", "int guessed(int)", "int fair(int)", "int order(int,int)",
        "int kinds(int,int)", "int meet()", "int apart(int)", "int sooner(int)", "int hangs(int)", "int bears(int)",
        "int soon(int)", "int report(int,int)", "int hard(int,int)", "int sign(int)", "int limb(int,int)",
        "int image(int)", "int from(int)", "int status(int)", "int count(int)", "long digest()"};
    private static final int MOST_CLASSES = 12;
    private static final int MOST_FIELDS = 20;
    private static final int MOST_PARAMETERS = 7;
    private static final Set<Class<?>> FIXED = Set.of(int.class, long.class, boolean.class, char.class, String.class,
            int[].class, long[].class, byte[].class, char[].class);

    private static final Check CHECK = new Check();

    public static void main(String[] args) {
        face();
        Class<?>[] inside = SlipHunt.class.getDeclaredClasses();
        CHECK.that("classes: " + (inside.length + 1), inside.length + 1 <= MOST_CLASSES);
        insideOf(SlipHunt.class);
        for (Class<?> c : inside) {
            int m = c.getModifiers();
            CHECK.that(c + " is static and hidden", Modifier.isStatic(m) && !Modifier.isPublic(m) && !Modifier.isProtected(m));
            insideOf(c);
        }
        CHECK.end("FaceTest");
    }

    private static void face() {
        int m = SlipHunt.class.getModifiers();
        CHECK.that("public final", Modifier.isPublic(m) && Modifier.isFinal(m));
        CHECK.that("no package", SlipHunt.class.getPackageName().isEmpty());
        Set<String> methods = new TreeSet<>();
        for (Method f : SlipHunt.class.getDeclaredMethods()) {
            if (!Modifier.isPrivate(f.getModifiers())) {
                methods.add(told(f));
                CHECK.that(f + " is public, of objects", f.getModifiers() == Modifier.PUBLIC);
            }
        }
        CHECK.that("the methods are " + methods, methods.equals(new TreeSet<>(Set.of(FACE))));
        Constructor<?>[] made = SlipHunt.class.getDeclaredConstructors();
        CHECK.that("one public constructor", made.length == 1 && Modifier.isPublic(made[0].getModifiers())
                && made[0].getParameterCount() == 0);
        Set<String> fields = new TreeSet<>();
        for (Field f : SlipHunt.class.getDeclaredFields()) {
            if (!Modifier.isPrivate(f.getModifiers())) {
                fields.add(Modifier.toString(f.getModifiers()) + " " + f.getType() + " " + f.getName());
            }
        }
        CHECK.that("the constants are " + fields, fields.equals(Set.of("public static final int NONE",
                "public static final int BAD", "public static final int NO", "public static final int FULL")));
    }

    private static String told(Method f) {
        StringBuilder s = new StringBuilder(f.getReturnType() + " " + f.getName() + "(");
        for (Class<?> p : f.getParameterTypes()) {
            s.append(s.charAt(s.length() - 1) == '(' ? "" : ",").append(p);
        }
        return s.append(")").toString();
    }

    private static void insideOf(Class<?> c) {
        int fields = 0;
        for (Field f : c.getDeclaredFields()) {
            if (Modifier.isStatic(f.getModifiers())) {
                CHECK.that(f + " is a constant", Modifier.isFinal(f.getModifiers()) && FIXED.contains(f.getType()));
            } else {
                fields++;
            }
        }
        CHECK.that(c + " has " + fields + " fields", fields <= MOST_FIELDS);
        Set<String> face = new TreeSet<>();
        for (String f : FACE) {
            face.add(f.substring(f.indexOf(' ') + 1, f.indexOf('(')));
        }
        for (Method f : c.getDeclaredMethods()) {
            CHECK.that(f + " takes too many", f.getParameterCount() <= MOST_PARAMETERS);
            CHECK.that(f + " bears a public name", c == SlipHunt.class && Modifier.isPublic(f.getModifiers())
                    || !face.contains(f.getName()));
            CHECK.that(f + " is no lambda", !f.isSynthetic());
        }
    }
}
