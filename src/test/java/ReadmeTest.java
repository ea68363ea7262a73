import java.lang.reflect.Method;
import java.nio.file.Files;
import java.nio.file.Path;
import java.util.Set;
import java.util.TreeSet;
import java.util.regex.Matcher;
import java.util.regex.Pattern;

/** Makes the calls of README.md's example on one new object, and looks at the answers that it tells. */
public final class ReadmeTest {
    private static final Pattern CALL = Pattern.compile("lab\\.(\\w+)\\(([^)]*)\\); +// (-?\\w+)\\b.*");

    public static void main(String[] args) throws Exception {
        Check check = new Check();
        SandpileLab lab = new SandpileLab();
        Set<String> unused = new TreeSet<>();
        for (Method method : SandpileLab.class.getMethods()) {
            if (method.getDeclaringClass() == SandpileLab.class) {
                unused.add(method.getName());
            }
        }
        for (String line : Files.readAllLines(Path.of("README.md"))) {
            Matcher call = CALL.matcher(line);
            boolean isCall = call.matches();
            check.same("can be read: " + line, isCall, line.startsWith("lab."));
            if (isCall) {
                String answer = answer(lab, call.group(1), call.group(2));
                check.same(line + " answered " + answer + ":", answer.equals(call.group(3)), true);
                unused.remove(call.group(1));
            }
        }
        check.same("methods that the example leaves out, " + unused + ":", unused.size(), 0);
        check.end();
    }

    private static String answer(SandpileLab lab, String name, String arguments) throws Exception {
        for (Method method : SandpileLab.class.getMethods()) {
            if (method.getName().equals(name)) {
                return String.valueOf(method.invoke(lab, values(arguments)));
            }
        }
        return "no such method";
    }

    private static Object[] values(String arguments) {
        if (arguments.isEmpty()) {
            return new Object[0];
        }
        String[] texts = arguments.split(", ");
        Object[] values = new Object[texts.length];
        for (int i = 0; i < texts.length; i++) {
            boolean isTruth = texts[i].equals("true") || texts[i].equals("false");
            values[i] = isTruth ? (Object) Boolean.valueOf(texts[i]) : (Object) Integer.valueOf(texts[i]);
        }
        return values;
    }
}
