import java.lang.reflect.Method;
import java.nio.file.Files;
import java.nio.file.Path;
import java.util.List;
import java.util.regex.Matcher;
import java.util.regex.Pattern;

/** The calls that README.md shows answer what it says there, the first word behind each of them. */
public final class ReadmeTest {
    private static final Pattern MAKE = Pattern.compile("DaeProcessor p = new DaeProcessor\\((-?\\d+), (-?\\d+)\\);.*");
    private static final Pattern CALL = Pattern.compile("p\\.(\\w+)\\((.*?)\\); *// *(-?\\w+).*");

    private static DaeProcessor p = null;

    public static void main(String[] args) throws Exception {
        boolean inExample = false;
        for (String line : Files.readAllLines(Path.of("README.md"))) {
            if (line.startsWith("```")) {
                inExample = line.equals("```java");
            } else if (inExample && !line.isBlank()) {
                follow(line);
            }
        }
        everyMethodIsNamed(Files.readString(Path.of("README.md")));
        Check.finish();
    }

    private static void follow(String line) throws Exception {
        Matcher make = MAKE.matcher(line);
        Matcher call = CALL.matcher(line);
        if (make.matches()) {
            p = new DaeProcessor(Integer.parseInt(make.group(1)), Integer.parseInt(make.group(2)));
        } else if (call.matches()) {
            due(line, answer(call.group(1), call.group(2)), call.group(3));
        } else {
            Check.due("a form of call that this test knows: " + line, false, true);
        }
    }

    private static Object answer(String name, String arguments) throws Exception {
        String[] words = arguments.isEmpty() ? new String[0] : arguments.split(", ");
        Object[] values = new Object[words.length];
        for (int i = 0; i < words.length; i++) {
            values[i] = number(words[i].replace("DaeProcessor.", ""));
        }
        for (Method m : DaeProcessor.class.getMethods()) {
            if (m.getName().equals(name) && m.getParameterCount() == values.length) {
                return m.invoke(p, values);
            }
        }
        throw new IllegalArgumentException("no such method: " + name);
    }

    private static int number(String word) throws Exception {
        boolean isName = Character.isLetter(word.charAt(0));
        return isName ? DaeProcessor.class.getField(word).getInt(null) : Integer.parseInt(word);
    }

    private static void due(String line, Object answer, String word) throws Exception {
        if (answer == null) {
            Check.due(line, word.equals("nothing"), true);
        } else if (answer instanceof Boolean) {
            Check.due(line, (Boolean) answer, Boolean.parseBoolean(word));
            Check.due(line + " says true or false", word.equals("true") || word.equals("false"), true);
        } else {
            Check.due(line, (Integer) answer, number(word));
        }
    }

    private static void everyMethodIsNamed(String text) {
        List<String> names = List.of("emit", "retract", "setRegister", "setMemory", "run", "register", "memory",
            "addressSide", "clear");
        for (String name : names) {
            Check.due("README.md shows a call of " + name, text.contains("\np." + name + "("), true);
        }
    }
}
