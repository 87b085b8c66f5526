import java.lang.reflect.Method;
import java.lang.reflect.Modifier;
import java.nio.file.Files;
import java.nio.file.Path;
import java.util.ArrayList;
import java.util.List;
import java.util.regex.Matcher;
import java.util.regex.Pattern;

/** The example of README.md, call by call with the answers that stand behind them; run in the project's folder. */
public final class ReadmeTest {
    private static final Pattern CALL = Pattern.compile("school\\.(\\w+)\\(([^)]*)\\);\\s+// (-?\\d+|true|false)\\b.*");
    private static int calls = 0;
    private static int wrong = 0;

    private static void must(boolean good, String what) {
        if (!good) {
            wrong++;
            System.out.println("README.md: " + what);
        }
    }

    private static Object[] numbersIn(String text) {
        List<Object> numbers = new ArrayList<>();
        for (String number : text.split(",")) {
            if (!number.isBlank()) {
                numbers.add(Integer.valueOf(number.trim()));
            }
        }
        return numbers.toArray();
    }

    private static Method methodNamed(String name) {
        for (Method m : NightSchool.class.getMethods()) {
            if (m.getName().equals(name)) {
                return m;
            }
        }
        throw new IllegalArgumentException("README.md calls " + name + ", which there is not");
    }

    private static void play(NightSchool school, String line) throws ReflectiveOperationException {
        Matcher call = CALL.matcher(line);
        boolean told = call.matches();
        must(told, "no answer behind " + line);
        if (told) {
            calls++;
            Object answer = methodNamed(call.group(1)).invoke(school, numbersIn(call.group(2)));
            must(answer.toString().equals(call.group(3)), line + " -- answered " + answer);
        }
    }

    private static void lookAtNames(String text) {
        for (Method m : NightSchool.class.getDeclaredMethods()) {
            boolean named = text.contains("`" + m.getName() + "`") && text.contains("school." + m.getName() + "(");
            must(named || !Modifier.isPublic(m.getModifiers()), "nothing of " + m.getName());
        }
    }

    public static void main(String[] args) throws Exception {
        Path readme = Path.of("README.md");
        NightSchool school = new NightSchool();
        for (String line : Files.readAllLines(readme)) {
            if (line.startsWith("school.")) {
                play(school, line);
            }
        }
        lookAtNames(Files.readString(readme));
        System.out.println(calls + " calls of the example, " + wrong + " things not as due");
        if (wrong != 0 || calls == 0) {
            System.exit(1);
        }
    }
}
