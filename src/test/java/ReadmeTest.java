import java.lang.reflect.Method;
import java.lang.reflect.Modifier;
import java.nio.file.Files;
import java.nio.file.Path;
import java.util.ArrayList;
import java.util.List;
import java.util.regex.Matcher;
import java.util.regex.Pattern;

/** README.md: the example answers as it says, and each call of the class is named under 'Use'. */
public final class ReadmeTest {
    private static final Pattern CALL = Pattern.compile("herds\\.(\\w+)\\(([^)]*)\\);\\s*// (\\S+)");

    private static int wrong = 0;
    private static int calls = 0;

    public static void main(String[] args) throws Exception {
        String use = useOf(Files.readString(Path.of("README.md")));
        runExample(use.substring(use.indexOf("```java") + 7, use.lastIndexOf("```")));
        for (Method method : StarHerds.class.getDeclaredMethods()) {
            if (Modifier.isPublic(method.getModifiers()) && !use.contains("`" + method.getName() + "`")) {
                complain(method.getName() + " is not told under 'Use'");
            }
        }
        if (calls == 0) {
            complain("no call was found in the example");
        }
        System.out.println("ReadmeTest: " + calls + " calls, " + wrong + " wrong");
        if (wrong > 0) {
            System.exit(1);
        }
    }

    private static String useOf(String readme) {
        int from = readme.indexOf("## Use");
        return readme.substring(from, readme.indexOf("\n## ", from + 1));
    }

    private static void runExample(String code) throws Exception {
        StarHerds herds = null;
        for (String line : code.split("\n")) {
            Matcher call = CALL.matcher(line);
            if (line.equals("StarHerds herds = new StarHerds();")) {
                herds = new StarHerds();
            } else if (call.matches()) {
                String answer = String.valueOf(answerOf(herds, call.group(1), call.group(2)));
                calls++;
                if (!answer.equals(call.group(3))) {
                    complain(line + " answers " + answer);
                }
            } else if (!line.isEmpty() && !line.startsWith("// ")) {
                complain("neither a call with its answer nor a comment: " + line);
            }
        }
    }

    private static Object answerOf(StarHerds herds, String name, String told) throws Exception {
        List<Object> given = new ArrayList<>();
        for (String word : told.isEmpty() ? new String[0] : told.split(", ")) {
            boolean isTruth = word.equals("true") || word.equals("false");
            given.add(isTruth ? (Object) Boolean.valueOf(word) : (Object) Integer.decode(word));
        }
        for (Method method : StarHerds.class.getDeclaredMethods()) {
            if (method.getName().equals(name) && Modifier.isPublic(method.getModifiers())) {
                return method.invoke(herds, given.toArray());
            }
        }
        return "no such call";
    }

    private static void complain(String what) {
        wrong++;
        System.out.println(what);
    }
}
