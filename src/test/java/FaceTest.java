import java.lang.reflect.Constructor;
import java.lang.reflect.Field;
import java.lang.reflect.Method;
import java.lang.reflect.Modifier;
import java.nio.file.Files;
import java.nio.file.Path;
import java.util.Set;
import java.util.TreeSet;
import java.util.regex.Matcher;
import java.util.regex.Pattern;

/** The public face of the document, and those rules of the language that can be seen from outside; run in the project's folder. */
public final class FaceTest {
    private static final Set<String> FACE = Set.of(
        "int feed(int,int,int,int,int)", "int end(int)", "int fees()", "int fault(int)", "int room(int)",
        "int course(int,int,int,int,int)", "int pupil(int,int,int)", "int wish(int,int)", "boolean canHold(int)",
        "int points(int)", "int open()", "int close()", "int weeks(int)", "boolean quit(int,int)", "int tell(int,int)",
        "int person(int,int)", "int why(int,int)", "int hours(int,int)", "int bill(int)", "int line(int,int)",
        "int count(int)", "int waits(int,int)", "boolean image(int)", "boolean again(int)");
    private static final String[] FORBIDDEN = {"\\bthrow\\b", "\\bthrows\\b", "\\btry\\b", "\\bcatch\\b", "\\bsynchronized\\b",
        "\\bassert\\b", "\\bprotected\\b", "^package\\b", "->", "::", "\\bObject\\b", "\\bhashCode\\b", "\\btoString\\b",
        "Exact\\b", "\\bdouble\\b", "\\bfloat\\b", "static\\s*\\{", "\\bvar\\b", "\\blambda\\b", "@"};
    private static int wrong = 0;

    private static void must(boolean good, String what) {
        if (!good) {
            wrong++;
            System.out.println("not so: " + what);
        }
    }

    private static String shown(Method m) {
        StringBuilder text = new StringBuilder(m.getReturnType().getName()).append(' ').append(m.getName()).append('(');
        Class<?>[] types = m.getParameterTypes();
        for (int i = 0; i < types.length; i++) {
            text.append(i == 0 ? "" : ",").append(types[i].getName());
        }
        return text.append(')').toString();
    }

    private static void lookAtFace() {
        Class<?> c = NightSchool.class;
        must(Modifier.isPublic(c.getModifiers()) && Modifier.isFinal(c.getModifiers()), "the class is public and final");
        Set<String> found = new TreeSet<>();
        for (Method m : c.getDeclaredMethods()) {
            if (!Modifier.isPrivate(m.getModifiers())) {
                must(Modifier.isPublic(m.getModifiers()) && !Modifier.isStatic(m.getModifiers()), m + " is public, of an object");
                found.add(shown(m));
            }
        }
        must(found.equals(new TreeSet<>(FACE)), "the methods are those of the document: " + found);
        Constructor<?>[] made = c.getDeclaredConstructors();
        must(made.length == 1 && Modifier.isPublic(made[0].getModifiers()) && made[0].getParameterCount() == 0, "one constructor");
        for (Field f : c.getDeclaredFields()) {
            must(Modifier.isPrivate(f.getModifiers()) || f.getName().equals("NONE"), f + " is private");
        }
    }

    private static void lookAtClass(Class<?> c, Set<String> publicNames) {
        int fields = 0;
        for (Field f : c.getDeclaredFields()) {
            if (Modifier.isStatic(f.getModifiers())) {
                must(Modifier.isFinal(f.getModifiers()), f + " is final");
            } else {
                fields++;
            }
        }
        must(fields <= 20, c + " has some twenty fields at most");
        for (Method m : c.getDeclaredMethods()) {
            must(m.getParameterCount() <= 7, m + " has seven parameters at most");
            must(Modifier.isPublic(m.getModifiers()) || !publicNames.contains(m.getName()), m + " bears a name of its own");
        }
    }

    private static void lookAtClasses() {
        Set<String> publicNames = new TreeSet<>();
        for (String f : FACE) {
            publicNames.add(f.substring(f.indexOf(' ') + 1, f.indexOf('(')));
        }
        lookAtClass(NightSchool.class, publicNames);
        Class<?>[] inside = NightSchool.class.getDeclaredClasses();
        must(inside.length <= 11, "some twelve classes at most");
        for (Class<?> c : inside) {
            must(Modifier.isStatic(c.getModifiers()) && !Modifier.isPublic(c.getModifiers()), c + " is static and not public");
            lookAtClass(c, publicNames);
        }
    }

    private static void lookAtText() throws Exception {
        String text = Files.readString(Path.of("src/main/java/NightSchool.java"));
        String code = text.replaceAll("(?s)/\\*.*?\\*/", "").replaceAll("//[^\n]*", "").replaceAll("\"[^\"\n]*\"", "\"\"");
        for (String word : FORBIDDEN) {
            must(!Pattern.compile(word, Pattern.MULTILINE).matcher(code).find(), "the code is without " + word);
        }
        Matcher imports = Pattern.compile("^import ([^;]*);", Pattern.MULTILINE).matcher(code);
        while (imports.find()) {
            must(imports.group(1).equals("java.util.Arrays"), "no import of " + imports.group(1));
        }
        int start = -1;
        String[] lines = code.split("\n");
        for (int i = 0; i < lines.length; i++) {
            if (lines[i].matches("( {4}| {8})[a-zA-Z].*\\).*\\{")) {
                start = i;
            }
            if (start >= 0 && lines[i].matches("( {4}| {8})\\}")) {
                must(i - start < 60, "short: " + lines[start].trim());
                start = -1;
            }
        }
    }

    public static void main(String[] args) throws Exception {
        lookAtFace();
        lookAtClasses();
        lookAtText();
        System.out.println(wrong == 0 ? "the face and the language are as due" : wrong + " things are not as due");
        if (wrong != 0) {
            System.exit(1);
        }
    }
}
