import java.io.IOException;
import java.lang.reflect.InvocationTargetException;
import java.lang.reflect.Method;
import java.nio.file.Files;
import java.nio.file.Path;
import java.util.ArrayList;
import java.util.List;
import java.util.Set;
import java.util.TreeSet;
import java.util.regex.Matcher;
import java.util.regex.Pattern;

/** README.md's calls answer what it says there, and its table has the face's methods. */
public final class ReadmeTest {
    private static final Pattern CALL = Pattern.compile("till\\.(\\w+)\\(([^)]*)\\);\\s*// (.*)");
    private static final Pattern ROW = Pattern.compile("\\| `(\\w+)\\(([^)]*)\\)` \\|[^|]*\\|([^|]*)\\|");
    private static int wrong = 0;

    public static void main(String[] args) throws IOException, IllegalAccessException {
        PromotionTill till = new PromotionTill();
        Set<String> called = new TreeSet<>();
        Set<String> listed = new TreeSet<>();
        for (String line : Files.readAllLines(Path.of("README.md"))) {
            Matcher call = CALL.matcher(line);
            Matcher row = ROW.matcher(line);
            if (call.matches()) {
                called.add(call.group(1));
                checkCall(till, call);
            } else if (line.startsWith("till.")) {
                due("a line that can't be read", line, "");
            } else if (row.matches()) {
                listed.add(row.group(1));
                checkRow(row);
            }
        }
        due("methods that are called", called, namesOfFace());
        due("methods in the table", listed, namesOfFace());
        System.out.println(wrong == 0 ? "README.md is as the class" : wrong + " places are not");
        if (wrong != 0) {
            System.exit(1);
        }
    }

    private static void due(String what, Object got, Object want) {
        if (!got.toString().equals(want.toString())) {
            wrong++;
            System.out.println(what + ": " + got + ", due is " + want);
        }
    }

    private static Set<String> namesOfFace() {
        Set<String> names = new TreeSet<>();
        for (Method method : PromotionTill.class.getDeclaredMethods()) {
            if (java.lang.reflect.Modifier.isPublic(method.getModifiers())) {
                names.add(method.getName());
            }
        }
        return names;
    }

    private static Method methodOf(String name) {
        for (Method method : PromotionTill.class.getMethods()) {
            if (method.getName().equals(name)) {
                return method;
            }
        }
        throw new IllegalArgumentException("README.md names " + name);
    }

    private static void checkCall(PromotionTill till, Matcher call) throws IllegalAccessException {
        String answer = answerOf(till, methodOf(call.group(1)), call.group(2).split(", "));
        String said = call.group(3);
        boolean isAnswer = said.startsWith("answers ") || said.startsWith("throws ");
        due(call.group(), answer, isAnswer ? said.replaceAll(":.*", "") : "answers nothing");
    }

    private static String answerOf(PromotionTill till, Method method, String[] words)
            throws IllegalAccessException {
        List<Object> arguments = new ArrayList<>();
        for (String word : words) {
            boolean isTruth = word.equals("true") || word.equals("false");
            arguments.add(isTruth ? (Object) Boolean.valueOf(word) : Integer.valueOf(word));
        }
        try {
            Object answer = method.invoke(till, arguments.toArray());
            return "answers " + (answer == null ? "nothing" : answer);
        } catch (InvocationTargetException e) {
            return "throws " + e.getCause().getClass().getSimpleName();
        }
    }

    private static void checkRow(Matcher row) {
        Method method = methodOf(row.group(1));
        due("arguments of " + row.group(), row.group(2).split(", ").length,
                method.getParameterCount());
        List<String> thrown = new ArrayList<>();
        for (Class<?> type : method.getExceptionTypes()) {
            thrown.add(type.getSimpleName().replace("Exception", ""));
        }
        due(row.group(), row.group(3).trim(), String.join(", ", thrown));
    }
}
