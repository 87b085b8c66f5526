import java.lang.reflect.Constructor;
import java.lang.reflect.Field;
import java.lang.reflect.Method;
import java.lang.reflect.Modifier;
import java.util.Set;
import java.util.TreeSet;

/** The public face of the document; LanguageTest looks at what is behind it. */
public final class FaceTest {
    private static final Set<String> FACE = Set.of(
        "int feed(int,int,int,int,int)", "int end(int)", "int fees()", "int fault(int)", "int room(int)",
        "int course(int,int,int,int,int)", "int pupil(int,int,int)", "int wish(int,int)", "boolean canHold(int)",
        "int points(int)", "int open()", "int close()", "int weeks(int)", "boolean quit(int,int)", "int tell(int,int)",
        "int person(int,int)", "int why(int,int)", "int hours(int,int)", "int bill(int)", "int line(int,int)",
        "int count(int)", "int waits(int,int)", "boolean image(int)", "boolean again(int)");
    private static int wrong = 0;

    private static void must(boolean good, String what) {
        if (!good) {
            wrong++;
            System.out.println("not so: " + what);
        }
    }

    private static String shown(Method m) {
        StringBuilder text = new StringBuilder(m.getReturnType().getName()).append(' ').append(m.getName()).append('(');
        Class<?>[] types = m.getParameterTypes();
        for (int i = 0; i < types.length; i++) {
            text.append(i == 0 ? "" : ",").append(types[i].getName());
        }
        return text.append(')').toString();
    }

    private static void lookAtFace() {
        Class<?> c = NightSchool.class;
        must(Modifier.isPublic(c.getModifiers()) && Modifier.isFinal(c.getModifiers()), "the class is public and final");
        Set<String> found = new TreeSet<>();
        for (Method m : c.getDeclaredMethods()) {
            if (!Modifier.isPrivate(m.getModifiers())) {
                must(Modifier.isPublic(m.getModifiers()) && !Modifier.isStatic(m.getModifiers()), m + " is public, of an object");
                found.add(shown(m));
            }
        }
        must(found.equals(new TreeSet<>(FACE)), "the methods are those of the document: " + found);
        Constructor<?>[] made = c.getDeclaredConstructors();
        must(made.length == 1 && Modifier.isPublic(made[0].getModifiers()) && made[0].getParameterCount() == 0, "one constructor");
        for (Field f : c.getDeclaredFields()) {
            must(Modifier.isPrivate(f.getModifiers()) || f.getName().equals("NONE"), f + " is private");
        }
    }

    /** Asked for at run time, since the compiler would write a constant's value into this test. */
    private static void lookAtConstant() throws ReflectiveOperationException {
        Field none = NightSchool.class.getDeclaredField("NONE");
        must(none.toString().equals("public static final int NightSchool.NONE"), none + " is public, static, final, an int");
        must(none.getInt(null) == -1, "NONE is -1");
    }

    /** Rule 1 of the language: no private method bears the name of a public one. */
    private static void lookAtNames() {
        Set<String> publicNames = new TreeSet<>();
        for (String f : FACE) {
            publicNames.add(f.substring(f.indexOf(' ') + 1, f.indexOf('(')));
        }
        lookAtNamesOf(NightSchool.class, publicNames);
        for (Class<?> inside : NightSchool.class.getDeclaredClasses()) {
            lookAtNamesOf(inside, publicNames);
        }
    }

    private static void lookAtNamesOf(Class<?> c, Set<String> publicNames) {
        for (Method m : c.getDeclaredMethods()) {
            must(Modifier.isPublic(m.getModifiers()) || !publicNames.contains(m.getName()), m + " bears a name of its own");
        }
    }

    public static void main(String[] args) throws ReflectiveOperationException {
        lookAtFace();
        lookAtConstant();
        lookAtNames();
        System.out.println(wrong == 0 ? "the face is as due" : wrong + " things are not as due");
        if (wrong != 0) {
            System.exit(1);
        }
    }
}
