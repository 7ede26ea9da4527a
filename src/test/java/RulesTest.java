import com.sun.management.ThreadMXBean;
import java.lang.management.ManagementFactory;
import java.lang.reflect.Constructor;
import java.lang.reflect.Field;
import java.lang.reflect.Method;
import java.lang.reflect.Modifier;
import java.nio.file.Files;
import java.nio.file.Path;
import java.util.ArrayList;
import java.util.List;
import java.util.Set;
import java.util.TreeSet;
import java.util.regex.Matcher;
import java.util.regex.Pattern;

/** The rules of ../shared/LANGUAGE.md that can be seen from outside, and that calls make no objects. */
public final class RulesTest {
    private static final Set<String> METHODS = new TreeSet<>(List.of("ground", "inn", "stray", "gone", "dog", "herd",
        "fire", "drover", "feed", "law", "price", "pay", "clouds", "lit", "pull", "target", "hours", "hour", "tried",
        "herdIs", "lampIs", "led", "plan", "safe", "place", "prices", "whoLit", "where", "odds", "seed", "clouded",
        "keep", "undo", "check", "count"));
    private static int wrong = 0;

    private static void must(boolean is, String what) {
        if (!is) {
            wrong++;
            System.out.println("RulesTest: " + what);
        }
    }

    public static void main(String[] args) throws Exception {
        source();
        face();
        room();
        System.out.println("RulesTest: " + wrong + " wrong");
        System.exit(wrong == 0 ? 0 : 1);
    }

    private static void source() throws Exception {
        String text = Files.readString(Path.of("src/main/java/StarHerds.java"));
        String code = text.replaceAll("(?s)/\\*.*?\\*/", " ").replaceAll("//[^\n]*", " ")
            .replaceAll("\"[^\"\n]*\"", "\"\"").replaceAll("'[^'\n]*'", "0");
        for (String word : new String[] {"throw", "throws", "try", "catch", "finally", "synchronized", "assert",
            "instanceof", "double", "float", "protected", "package", "volatile", "transient", "native", "var"}) {
            must(!Pattern.compile("\\b" + word + "\\b").matcher(code).find(), "the source says " + word);
        }
        must(!code.contains("->") && !code.contains("::"), "a lambda or a method reference");
        must(!Pattern.compile("\\b\\w+Exact\\b").matcher(code).find(), "a function in Exact");
        must(!Pattern.compile("\"\\s*\\+|\\+\\s*\"").matcher(code).find(), "a text joined by +");
        must(!Pattern.compile("\\b(String|char\\[\\]) \\w+ = new\\b").matcher(code).find(), "a text is made");
        Matcher imports = Pattern.compile("import ([\\w.]+);").matcher(code);
        while (imports.find()) {
            must(imports.group(1).equals("java.util.Arrays"), "imports " + imports.group(1));
        }
        must(text.chars().allMatch(c -> c < 127), "a sign beyond 126");
        must(code.split("\\bclass\\b").length - 1 <= 12, "more than twelve classes");
        Matcher params = Pattern.compile("\\w+\\s+\\w+\\(([^()]*)\\)\\s*\\{").matcher(code);
        while (params.find()) {
            must(params.group(1).split(",").length <= 7, "more than seven parameters: " + params.group());
        }
        lengths(text);
    }

    private static void lengths(String text) {
        int from = -1;
        String[] lines = text.split("\n");
        for (int k = 0; k < lines.length; k++) {
            if (lines[k].matches("\\s+(public|private).*\\) \\{")) {
                from = k;
            }
            if (from >= 0 && lines[k].matches("( {4}| {8})\\}")) {
                must(k - from <= 60, "a long method at line " + (from + 1));
                from = -1;
            }
        }
    }

    private static void face() {
        Set<String> methods = new TreeSet<>();
        must(Modifier.isFinal(StarHerds.class.getModifiers()) && Modifier.isPublic(StarHerds.class.getModifiers()),
            "the class is public and final");
        for (Method m : StarHerds.class.getDeclaredMethods()) {
            if (!Modifier.isPrivate(m.getModifiers()) && !m.isSynthetic()) {
                must(Modifier.isPublic(m.getModifiers()), m + " can be seen");
                methods.add(m.getName());
            }
        }
        must(methods.equals(METHODS), "the face is " + methods);
        List<Class<?>> all = new ArrayList<>(List.of(StarHerds.class.getDeclaredClasses()));
        for (Class<?> inside : all) {
            must(Modifier.isStatic(inside.getModifiers()) && !Modifier.isPublic(inside.getModifiers())
                && !Modifier.isProtected(inside.getModifiers()), inside + " is no static class of its own");
            for (Method m : inside.getDeclaredMethods()) {
                must(m.isSynthetic() || !METHODS.contains(m.getName()), m + " bears the name of a public one");
            }
        }
        all.add(StarHerds.class);
        for (Class<?> c : all) {
            int fields = 0;
            for (Field f : c.getDeclaredFields()) {
                must(!Modifier.isStatic(f.getModifiers()) || Modifier.isFinal(f.getModifiers()), f + " can change");
                fields += Modifier.isStatic(f.getModifiers()) ? 0 : 1;
                must(c != StarHerds.class || Modifier.isPrivate(f.getModifiers()) || f.getName().equals("NONE"),
                    f + " can be seen");
            }
            must(fields <= 20, c + " has " + fields + " fields");
        }
        Constructor<?>[] constructors = StarHerds.class.getConstructors();
        must(constructors.length == 1 && constructors[0].getParameterCount() == 0, "one constructor");
    }

    /** What a call makes would pile up in the one room that a run has. */
    private static void room() {
        ThreadMXBean bean = (ThreadMXBean) ManagementFactory.getThreadMXBean();
        long thread = Thread.currentThread().getId();
        callAll(new StarHerds());
        long start = bean.getThreadAllocatedBytes(thread);
        StarHerds x = new StarHerds();
        long made = bean.getThreadAllocatedBytes(thread);
        callAll(x);
        long called = bean.getThreadAllocatedBytes(thread);
        must(made - start < 60_000, "a new object takes " + (made - start) + " bytes");
        must(called - made < 2_000, "the calls take " + (called - made) + " bytes");
    }

    private static void callAll(StarHerds x) {
        for (int k = 0; k < 11; k++) {
            x.feed(1630873717, 1026566497, 0, 0, 0);
            x.law(7);
            for (int i = 0; i < 9; i++) {
                x.inn(i, i, 3, 0);
            }
            x.stray(9, 3, 3, 1, true);
            for (int h = 0; h < 6; h++) {
                x.herd(h, h, 0, 9, 0, 60);
                x.fire(h, true);
            }
            x.plan(9, 0);
            x.safe(0);
            x.place(0, 0);
            x.prices(0, 1, 9, 0);
            x.feed(0, 0, 0, 0, 0);
            x.whoLit(2, 0);
            x.where(0, 1, 14, 0);
            x.odds(3, 1, 0);
            x.tried(24, 0);
            x.hours(3);
            x.clouded();
            x.keep();
            x.undo();
            x.feed(0, 0, 0, 0, 0);
            x.check(2);
            x.count(9);
        }
    }
}
