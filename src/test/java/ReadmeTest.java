import java.lang.reflect.Method;
import java.nio.file.Files;
import java.nio.file.Path;
import java.util.regex.Matcher;
import java.util.regex.Pattern;

// The example in README.md: makes its calls on a new object and compares each answer with the one
// that stands behind the call. To be run in the project's directory.
public final class ReadmeTest {
    private static final Pattern CALL = Pattern.compile("judge\\.(\\w+)\\(([^)]*)\\);\\s*// (\\S+).*");

    private static Object value(String word) {
        switch (word) {
            case "true": return true;
            case "false": return false;
            case "BAD": return ModalJudge.BAD;
            case "FULL": return ModalJudge.FULL;
            case "UNSOUND": return ModalJudge.UNSOUND;
            default: return word.startsWith("0b") ? Integer.parseInt(word.substring(2), 2) : Integer.parseInt(word);
        }
    }

    private static Object answer(ModalJudge judge, String name, String arguments) throws Exception {
        String[] words = arguments.isEmpty() ? new String[0] : arguments.split(", ");
        Object[] values = new Object[words.length];
        for (int k = 0; k < words.length; k++) {
            values[k] = value(words[k]);
        }
        for (Method method : ModalJudge.class.getMethods()) {
            if (method.getName().equals(name)) {
                return method.invoke(judge, values);
            }
        }
        return "no such call";
    }

    public static void main(String[] args) throws Exception {
        ModalJudge judge = new ModalJudge();
        int calls = 0;
        int wrong = 0;
        for (String line : Files.readAllLines(Path.of("README.md"))) {
            Matcher call = CALL.matcher(line);
            if (call.matches()) {
                calls++;
                Object got = answer(judge, call.group(1), call.group(2));
                Object due = value(call.group(3));
                if (!got.equals(due)) {
                    wrong++;
                    System.out.println("README.md: " + line + " answered " + got + ", due is " + due);
                }
            } else if (line.startsWith("judge.")) {
                wrong++;
                System.out.println("README.md: " + line + " tells no answer");
            }
        }
        if (calls == 0) {
            wrong++;
            System.out.println("README.md has no example");
        }
        System.out.println(wrong == 0 ? "all answers are as due" : wrong + " answers are not as due");
        if (wrong != 0) {
            System.exit(1);
        }
    }
}
