import java.lang.reflect.Constructor;
import java.lang.reflect.Field;
import java.lang.reflect.Method;
import java.lang.reflect.Modifier;
import java.util.Arrays;
import java.util.TreeSet;

/** The document's face, and nothing beside it (LANGUAGE.md, rules 1, 2 and 5). */
public final class FaceTest {
    private static final String[] FACE = {
        "write(int,long)", "wipe()", "fault()", "ferry()", "boat(int)", "person(int,int)", "gain(int,int)",
        "minutes(int)", "lay(int,int)", "unlay(int)", "weighs(int,int)", "off(int)", "leave()", "back()",
        "left(int,int)", "best()", "bestAt(int)", "worth(int)", "makes(int)", "bestMakes()", "sets()",
        "crossings(int)", "all()", "rule()", "ruleAt(int)", "claim(int,int)", "fits()", "liars()",
        "mayWeigh(int)", "keep(int)", "again(int)", "count(int)"};
    private static final String[] CONSTANTS = {"UNKNOWN", "OUTSIDE", "STATE", "FULL", "NONE"};
    private static final Check CHECK = new Check();

    public static void main(String[] args) {
        int modifiers = FerriesLevel.class.getModifiers();
        CHECK.holds("the class is public and final", Modifier.isPublic(modifiers) && Modifier.isFinal(modifiers));
        constructors();
        methods();
        fields();
        for (Class<?> inside : FerriesLevel.class.getDeclaredClasses()) {
            CHECK.holds(inside + " is static", Modifier.isStatic(inside.getModifiers()));
            CHECK.holds(inside + " is not public", !Modifier.isPublic(inside.getModifiers()));
            staticFields(inside);
            namesInside(inside);
        }
        CHECK.end("FaceTest");
    }

    private static void constructors() {
        Constructor<?>[] made = FerriesLevel.class.getDeclaredConstructors();
        CHECK.due("constructors", 1, made.length);
        CHECK.holds("it is public", Modifier.isPublic(made[0].getModifiers()));
        CHECK.due("it takes nothing", 0, made[0].getParameterCount());
    }

    private static void methods() {
        TreeSet<String> seen = new TreeSet<>();
        TreeSet<String> names = new TreeSet<>();
        for (Method m : FerriesLevel.class.getDeclaredMethods()) {
            if (Modifier.isPublic(m.getModifiers())) {
                seen.add(told(m));
                names.add(m.getName());
                CHECK.holds(m + " answers an int", m.getReturnType() == int.class);
            }
        }
        CHECK.holds("the methods are those of the document", seen.equals(new TreeSet<>(Arrays.asList(FACE))));
        for (Method m : FerriesLevel.class.getDeclaredMethods()) {
            boolean isPublic = Modifier.isPublic(m.getModifiers());
            CHECK.holds(m + " is public or private", isPublic || Modifier.isPrivate(m.getModifiers()));
            CHECK.holds(m + " has a name of its own", isPublic || !names.contains(m.getName()));
        }
    }

    private static String told(Method m) {
        StringBuilder b = new StringBuilder(m.getName()).append('(');
        for (Class<?> c : m.getParameterTypes()) {
            b.append(b.charAt(b.length() - 1) == '(' ? "" : ",").append(c.getName());
        }
        return b.append(')').toString();
    }

    private static void fields() {
        TreeSet<String> seen = new TreeSet<>();
        for (Field f : FerriesLevel.class.getDeclaredFields()) {
            boolean isPublic = Modifier.isPublic(f.getModifiers());
            CHECK.holds(f + " is public or private", isPublic || Modifier.isPrivate(f.getModifiers()));
            if (isPublic) {
                seen.add(f.getName());
                CHECK.holds(f + " is an int", f.getType() == int.class);
            }
        }
        CHECK.holds("the constants are those of the document", seen.equals(new TreeSet<>(Arrays.asList(CONSTANTS))));
        staticFields(FerriesLevel.class);
    }

    private static void staticFields(Class<?> c) {
        for (Field f : c.getDeclaredFields()) {
            int modifiers = f.getModifiers();
            CHECK.holds(f + " is no static that changes", !Modifier.isStatic(modifiers) || Modifier.isFinal(modifiers));
        }
    }

    private static void namesInside(Class<?> inside) {
        for (Method m : inside.getDeclaredMethods()) {
            for (String face : FACE) {
                CHECK.holds(m + " bears no name of the face", !face.startsWith(m.getName() + "("));
            }
        }
    }
}
