import java.lang.reflect.Constructor;
import java.lang.reflect.Field;
import java.lang.reflect.Method;
import java.lang.reflect.Modifier;
import java.util.HashSet;
import java.util.Set;

/** The class has the document's face, and nothing else of it can be seen. */
public final class FaceTest {
    private static final String[] FACE = {
        "int net(int)", "int wire(int,int,int,int)", "int width(int,int)", "int pad(int,boolean)",
        "int pull(int,int)", "long fall(int,int)", "int greatest()", "long flow(int,int)",
        "long resist(int,int,int)", "int block(int,int)", "int budget(int)", "int worst(int,int)",
        "long worstFall(int,int)", "int worstKnot()", "long open(int,int)", "int weakest()",
        "long shrunk(int,int,int,int)", "int pads(int)", "int widen(int,int)", "int widened(int,int,int)",
        "int woken(int)", "long wokenFall(int)", "int count(int)", "long digest()"};

    private FaceTest() {
    }

    public static void main(String[] args) {
        check("public and final", Modifier.isPublic(ChipVolts.class.getModifiers())
                && Modifier.isFinal(ChipVolts.class.getModifiers()));
        constructors();
        constants();
        methods();
        classesInside();
        Due.end("FaceTest");
    }

    private static void check(String what, boolean holds) {
        Due.due(what, holds ? 1 : 0, 1);
    }

    private static void constructors() {
        Constructor<?>[] all = ChipVolts.class.getDeclaredConstructors();
        check("one constructor", all.length == 1 && all[0].getParameterCount() == 0
                && Modifier.isPublic(all[0].getModifiers()));
    }

    private static void constants() {
        Set<String> names = new HashSet<>();
        for (Field f : ChipVolts.class.getDeclaredFields()) {
            int m = f.getModifiers();
            if (Modifier.isPublic(m)) {
                names.add(f.getName());
                check(f.getName() + " is a constant", Modifier.isStatic(m) && Modifier.isFinal(m)
                        && f.getType() == int.class);
            } else {
                check(f.getName() + " is private", Modifier.isPrivate(m));
            }
            check(f.getName() + " is no static state", !Modifier.isStatic(m) || Modifier.isFinal(m));
        }
        check("the four constants", names.equals(Set.of("NONE", "BAD", "NO", "FULL")));
    }

    private static String told(Method m) {
        StringBuilder types = new StringBuilder();
        for (Class<?> type : m.getParameterTypes()) {
            types.append(types.length() == 0 ? "" : ",").append(type.getName());
        }
        return m.getReturnType().getName() + " " + m.getName() + "(" + types + ")";
    }

    private static Set<String> names() {
        Set<String> names = new HashSet<>();
        for (String told : FACE) {
            names.add(told.substring(told.indexOf(' ') + 1, told.indexOf('(')));
        }
        return names;
    }

    private static void methods() {
        Set<String> open = new HashSet<>();
        for (Method m : ChipVolts.class.getDeclaredMethods()) {
            if (Modifier.isPublic(m.getModifiers())) {
                check(m + " belongs to objects", !Modifier.isStatic(m.getModifiers()));
                open.add(told(m));
            } else {
                hidden(m);
            }
        }
        check("the document's methods", open.equals(Set.of(FACE)));
    }

    private static void hidden(Method m) {
        check(m + " is private", Modifier.isPrivate(m.getModifiers()));
        check(m + " has a name of its own", !names().contains(m.getName()));
        check(m + " takes at most seven", m.getParameterCount() <= 7);
    }

    private static void classesInside() {
        Class<?>[] all = ChipVolts.class.getDeclaredClasses();
        check("at most twelve classes", all.length + 1 <= 12);
        for (Class<?> c : all) {
            int m = c.getModifiers();
            check(c + " is static and hidden",
                    Modifier.isStatic(m) && !Modifier.isPublic(m) && !Modifier.isProtected(m));
            for (Method inside : c.getDeclaredMethods()) {
                hidden(inside);
            }
            check(c + " has at most twenty fields", c.getDeclaredFields().length <= 20);
            for (Field f : c.getDeclaredFields()) {
                check(f + " is no static state", !Modifier.isStatic(f.getModifiers())
                        || Modifier.isFinal(f.getModifiers()));
            }
        }
    }
}
