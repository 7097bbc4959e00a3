import java.lang.reflect.Constructor;
import java.lang.reflect.Field;
import java.lang.reflect.Method;
import java.lang.reflect.Modifier;
import java.util.ArrayList;
import java.util.List;
import java.util.TreeSet;

/** The public face as the document writes it, and nothing beside it. */
public final class FaceTest {
    private static final String[] METHODS = {
        "int set(int,int,int)", "int eater(int,int,int)", "int told(int,int)", "int ready(int)", "int feed(int)",
        "int text()", "int force(int)", "int supper(int,int,int)", "int heap(int,int)", "int best(int,int)",
        "int keep(int)", "int second()", "int leave()", "long plates(int,int)", "int eaten(int,int)",
        "int film(int,int)", "long drawn(int)", "long chance(int,int,int)", "int image()", "int back()",
        "int count(int)", "int sheet(int,int,int)", "int cell(int,int,int)", "int copy(int,int,int,int,int)",
        "int eaters(int,int,int,int)", "int taken(int,int)"};

    public static void main(String[] args) {
        theClass();
        methods();
        fields();
        inside();
        Due.close("FaceTest");
    }

    private static void theClass() {
        int m = FirstOne.class.getModifiers();
        Due.holds("public", Modifier.isPublic(m));
        Due.holds("final", Modifier.isFinal(m));
        Due.holds("no package", FirstOne.class.getPackageName().isEmpty());
        Due.holds("under Object alone", FirstOne.class.getSuperclass() == Object.class);
        Due.is("interfaces", FirstOne.class.getInterfaces().length, 0);
        Constructor<?>[] made = FirstOne.class.getDeclaredConstructors();
        Due.is("constructors", made.length, 1);
        Due.holds("a public one", Modifier.isPublic(made[0].getModifiers()));
        Due.is("of nothing", made[0].getParameterCount(), 0);
    }

    private static String written(Method m) {
        List<String> types = new ArrayList<>();
        for (Class<?> type : m.getParameterTypes()) {
            types.add(type.getName());
        }
        return m.getReturnType().getName() + " " + m.getName() + "(" + String.join(",", types) + ")";
    }

    private static void methods() {
        TreeSet<String> due = new TreeSet<>(List.of(METHODS));
        for (Method m : FirstOne.class.getDeclaredMethods()) {
            if (!Modifier.isPrivate(m.getModifiers())) {
                Due.holds(m + " is of the face", due.remove(written(m)));
                Due.holds(m + " is public", Modifier.isPublic(m.getModifiers()));
                Due.holds(m + " is of an object", !Modifier.isStatic(m.getModifiers()));
            }
        }
        Due.is("not there: " + due, due.size(), 0);
    }

    private static void fields() {
        TreeSet<String> due = new TreeSet<>(List.of("NONE", "BAD", "STATE", "FULL", "NO"));
        for (Field f : FirstOne.class.getDeclaredFields()) {
            int m = f.getModifiers();
            if (!Modifier.isPrivate(m)) {
                Due.holds(f + " is of the face", due.remove(f.getName()));
                Due.holds(f + " is a constant", Modifier.isPublic(m) && Modifier.isStatic(m) && Modifier.isFinal(m));
            }
            Due.holds(f + ": what is static is final", !Modifier.isStatic(m) || Modifier.isFinal(m));
        }
        Due.is("not there: " + due, due.size(), 0);
        Due.is("NONE", FirstOne.NONE, -1);
        Due.is("BAD", FirstOne.BAD, -2);
        Due.is("STATE", FirstOne.STATE, -3);
        Due.is("FULL", FirstOne.FULL, -4);
        Due.is("NO", FirstOne.NO, -(1L << 62));
    }

    private static void inside() {
        TreeSet<String> face = new TreeSet<>();
        for (String m : METHODS) {
            face.add(m.substring(m.indexOf(' ') + 1, m.indexOf('(')));
        }
        Class<?>[] classes = FirstOne.class.getDeclaredClasses();
        Due.holds("some twelve classes", classes.length < 12);
        hidden(FirstOne.class, face);
        for (Class<?> c : classes) {
            int m = c.getModifiers();
            Due.holds(c + " is static", Modifier.isStatic(m));
            Due.holds(c + " is not seen outside", !Modifier.isPublic(m) && !Modifier.isProtected(m));
            Due.is("classes inside " + c, c.getDeclaredClasses().length, 0);
            hidden(c, face);
            int fields = 0;
            for (Field f : c.getDeclaredFields()) {
                fields += Modifier.isStatic(f.getModifiers()) ? 0 : 1;
                Due.holds(f + ": what is static is final",
                    !Modifier.isStatic(f.getModifiers()) || Modifier.isFinal(f.getModifiers()));
            }
            Due.holds("some twenty fields in " + c, fields <= 20);
        }
    }

    private static void hidden(Class<?> c, TreeSet<String> face) {
        for (Method m : c.getDeclaredMethods()) {
            Due.holds(m + " bears no name of the face", Modifier.isPublic(m.getModifiers()) || !face.contains(m.getName()));
            Due.holds(m + " has seven parameters at most", m.getParameterCount() <= 7);
            Due.holds(m + " was written", !m.isSynthetic());
        }
    }
}
