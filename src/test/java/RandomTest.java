import java.lang.reflect.Method;
import java.util.ArrayList;
import java.util.HashMap;
import java.util.List;
import java.util.Map;
import java.util.Random;

/** Many runs of drawn calls, each answered by StarHerds and by SlowHerds; the first that differs fails. */
public final class RandomTest {
    private static final Map<String, Method> FAST = new HashMap<>();
    private static final Map<String, Method> SLOW = new HashMap<>();

    /** So that with what one step and the last look at all take no object is used for more than 512 calls. */
    private static final int MOST_STEPS = 360;

    private final Random random;
    private final StarHerds fast = new StarHerds();
    private final SlowHerds slow = new SlowHerds();
    private final List<String> log = new ArrayList<>();
    private final Map<String, Map<String, Integer>> seen;
    private int calls = 0;
    private final int inns;

    private RandomTest(long seed, Map<String, Map<String, Integer>> seen) {
        random = new Random(seed);
        this.seen = seen;
        inns = random.nextInt(12) == 0 ? 9 : 1 + random.nextInt(6);
    }

    public static void main(String[] args) throws Exception {
        int runs = args.length > 0 ? Integer.parseInt(args[0]) : 1500;
        long from = args.length > 1 ? Long.parseLong(args[1]) : 0;
        for (Method m : StarHerds.class.getDeclaredMethods()) {
            if (java.lang.reflect.Modifier.isPublic(m.getModifiers())) {
                FAST.put(m.getName(), m);
                SLOW.put(m.getName(), SlowHerds.class.getMethod(m.getName(), m.getParameterTypes()));
            }
        }
        Map<String, Map<String, Integer>> seen = new HashMap<>();
        long all = 0;
        for (long seed = from; seed < from + runs; seed++) {
            RandomTest run = new RandomTest(seed, seen);
            try {
                run.go();
            } catch (IllegalStateException e) {
                System.out.println("seed " + seed);
                run.log.forEach(System.out::println);
                System.out.println(e.getMessage());
                System.exit(1);
            }
            all += run.calls;
        }
        if (args.length > 2) {
            new java.util.TreeMap<>(seen).forEach((k, v) -> System.out.println(k + " " + new java.util.TreeMap<>(v)));
        }
        System.out.println("RandomTest: " + runs + " runs, " + all + " calls, all alike");
    }

    private int call(String name, Object... args) throws Exception {
        Object a = FAST.get(name).invoke(fast, args);
        Object b = SLOW.get(name).invoke(slow, args);
        calls++;
        StringBuilder line = new StringBuilder(name).append('(');
        for (Object o : args) {
            line.append(line.charAt(line.length() - 1) == '(' ? "" : ", ").append(o);
        }
        line.append(") = ").append(b);
        log.add(line.toString());
        String kind = b instanceof Boolean ? b.toString()
            : (Integer) b >= 0 ? "some" : (Integer) b > -9 ? b.toString() : "fault " + (Integer) b / -1000;
        seen.computeIfAbsent(name, k -> new HashMap<>()).merge(kind, 1, Integer::sum);
        if (!a.equals(b)) {
            throw new IllegalStateException(line + " but StarHerds answered " + a);
        }
        return b instanceof Boolean ? ((Boolean) b ? 1 : 0) : (Integer) b;
    }

    private int below(int n) {
        return random.nextInt(n);
    }

    /** Mostly 0 to n - 1, now and then beyond. */
    private int near(int n) {
        int k = below(120);
        return k == 0 ? -1 : k == 1 ? n : k == 2 ? random.nextInt() : below(n);
    }

    private void feedText(String text) throws Exception {
        int[] bytes = new int[(text.length() + 19) / 20 * 20];
        for (int k = 0; k < bytes.length; k++) {
            bytes[k] = k < text.length() ? text.charAt(k) : 'a';
        }
        for (int k = 0; k < bytes.length; k += 20) {
            Object[] args = new Object[5];
            for (int j = 0; j < 5; j++) {
                int at = k + 4 * j;
                args[j] = bytes[at] << 24 | bytes[at + 1] << 16 | bytes[at + 2] << 8 | bytes[at + 3];
            }
            call("feed", args);
        }
    }

    private String number() {
        int[] usual = {0, 1, 2, 3, 5, 9, 10, 30, 99, 700, 65535, 99999};
        return Integer.toString(below(3) == 0 ? below(1000) : usual[below(usual.length)]);
    }

    private String factor(int deep) {
        int k = below(10);
        if (deep > 0 && k == 0) {
            return "[" + sum(deep - 1) + "]";
        }
        return k < 5 ? number() : String.valueOf("uvhntexygcrlkdp".charAt(below(15)));
    }

    private String term(int deep) {
        StringBuilder s = new StringBuilder(factor(deep));
        while (below(4) == 0) {
            s.append("*/%".charAt(below(3))).append(factor(deep));
        }
        return s.toString();
    }

    private String sum(int deep) {
        StringBuilder s = new StringBuilder(term(deep));
        while (below(4) == 0) {
            s.append("+-".charAt(below(2))).append(term(deep));
        }
        return s.toString();
    }

    private String piece(int deep) {
        int k = below(8);
        if (deep > 0 && k == 0) {
            return "!" + piece(deep - 1);
        }
        if (deep > 0 && k == 1) {
            return "(" + choice(deep - 1) + ")";
        }
        return sum(deep) + "<>=".charAt(below(3)) + sum(deep);
    }

    private String choice(int deep) {
        StringBuilder s = new StringBuilder(piece(deep));
        while (below(3) == 0) {
            s.append("|&".charAt(below(2))).append(piece(deep));
        }
        return s.toString();
    }

    private String clause(char letter) {
        String[] plain = {"a30-d", "a10+[l+h]%4", "z5", "z9", "s4", "s9", "s[n+1]/2", "w7", "w15", "x9", "x[n+1]/3", "f9",
            "f0-7", "f30*c+3", "b7+l", "b[l*5+k]%11", "b3+p", "q5", "q6"};
        String amount = null;
        for (int k = 0; k < 30 && amount == null && below(4) != 0; k++) {
            String p = plain[below(plain.length)];
            amount = p.charAt(0) == letter ? p : null;
        }
        String when = below(2) == 0 ? "1=1" : choice(4);
        return (amount == null ? letter + sum(5) : amount) + "(" + when + ")";
    }

    private String lawText() {
        StringBuilder s = new StringBuilder();
        String letters = below(4) == 0 ? "azswxfbq" : "azswxfbqaabzsw";
        int many = 1 + below(below(6) == 0 ? 20 : 9);
        for (int k = 0; k < many; k++) {
            char letter = k < 8 && below(5) != 0 ? "aszbwfxq".charAt(k) : letters.charAt(below(letters.length()));
            String next = clause(letter);
            if (s.length() + next.length() + 1 > 240) {
                break;
            }
            s.append(s.length() == 0 ? "" : ";").append(next);
        }
        if (s.length() == 0) {
            s.append("a9(1=1)");
        }
        if (below(3) == 0) {
            int changes = 1 + below(3);
            for (int k = 0; k < changes && s.length() > 0; k++) {
                int at = below(s.length());
                String signs = "azswxfbquvhntexygcrlkdp0123456789()[]!&|<>=+-*/%;; A\u00e9";
                char sign = signs.charAt(below(signs.length()));
                String[] extra = {String.valueOf(sign), "((((((", "[[[", "!!!!", "!(!(", "123", "00000"};
                switch (below(3)) {
                    case 0: s.setCharAt(at, sign); break;
                    case 1: s.insert(at, extra[below(extra.length)]); break;
                    default: s.deleteCharAt(at); break;
                }
            }
            if (s.length() > 240) {
                s.setLength(240);
            }
        }
        if (below(15) == 0) {
            s.setLength(0);
            while (s.length() < 110 + below(30)) {
                s.append(s.length() == 0 ? "" : ";").append("azswxfbq".charAt(below(8))).append(below(9)).append("(1=1)");
            }
        }
        return s.length() == 0 ? "a" : s.toString();
    }

    private void tellLaw() throws Exception {
        call("count", 4);
        // What an earlier feed has left on the tape would stand ahead of the text.
        if (below(10) != 0) {
            call("check", 0);
        }
        String text = lawText();
        feedText(text);
        call("law", below(30) == 0 ? near(250) : text.length());
        call("count", 3);
    }

    private void tellHerd() throws Exception {
        int cattle = below(10) == 0 ? 0 : below(4) == 0 ? near(1000) : 1 + below(40);
        int thirst = below(3) == 0 ? near(100) : below(3) == 0 ? 95 : 0;
        int fear = below(2) == 0 ? near(100) : below(2) == 0 ? 50 : 0;
        call("herd", near(6), near(14), below(4) == 0 ? near(14) : below(8), cattle, thirst, fear);
    }

    private void tellLamp() throws Exception {
        if (below(3) == 0) {
            call("stray", below(20) == 0 ? near(18) : 9 + below(3), near(14), near(14), near(5), random.nextBoolean());
        } else {
            call("inn", below(20) == 0 ? near(12) : below(inns), near(14), near(14), near(5));
        }
    }

    /** Asks who lit what, mostly by squares to which the herds will come. */
    private void askWhoLit() throws Exception {
        int n = 1 + below(4);
        int on = call("count", 7);
        call("check", 0);
        int[] bytes = new int[20];
        int many = 0;
        for (int h = 0; h < 6; h++) {
            if ((on >> h & 1) == 1) {
                int square = call("tried", n, 20 + h);
                boolean isGone = square == 196 || call("tried", n, 10 + h) == 0;
                bytes[many++] = isGone ? 255 : below(12) == 0 ? below(256) : square;
            }
        }
        for (int what = 0; what < 3; what++) {
            StringBuilder text = new StringBuilder();
            for (int b : bytes) {
                text.append((char) b);
            }
            if (below(15) != 0) {
                feedText(text.toString());
            }
            call("whoLit", below(15) == 0 ? near(9) : n, below(20) == 0 ? 3 : what);
            call("count", 4);
        }
    }

    private void askMore(int k) throws Exception {
        switch (k) {
            case 0: call("plan", below(3) == 0 ? near(10000) : below(60), near(3)); break;
            case 1: call("safe", near(2)); break;
            case 2: call("place", near(inns), near(2)); break;
            case 3:
                int i = near(inns);
                int j = near(inns);
                int coins = below(5) == 0 ? near(10000) : below(25);
                for (int what = 0; what < 3; what++) {
                    call("prices", i, j, coins, what);
                }
                break;
            case 4: askWhoLit(); break;
            case 5:
                int h = near(6);
                int n = 1 + below(4);
                int square = call("tried", n, 20 + h);
                for (int what = 0; what < 2; what++) {
                    call("where", h, below(20) == 0 ? near(9) : n, below(4) == 0 ? near(196) : square, near(2));
                }
                break;
            case 6:
                int living = call("count", 9);
                int hours = below(8) == 0 ? near(4) : 1 + below(3);
                int least = below(8) == 0 ? near(10000) : living - below(12);
                call("odds", hours, least, 0);
                call("odds", hours, least, 1);
                break;
            default:
                int[] numbers = new int[5];
                int told = below(6);
                for (int a = 0; a < told; a++) {
                    numbers[a] = below(8) == 0 ? near(1000) : Math.max(0, call("herdIs", a, 1));
                }
                call("feed", numbers[0], numbers[1], numbers[2], numbers[3], numbers[4]);
                call("check", below(8) == 0 ? near(8) : told);
                call("count", 4);
                break;
        }
    }

    private void tell() throws Exception {
        switch (below(14)) {
            case 0: call("ground", near(14), near(14), near(4)); break;
            case 1: tellLamp(); break;
            case 2: call("gone", near(12)); break;
            case 3: call("dog", near(inns), below(3) == 0 ? near(100) : below(4)); break;
            case 4: tellHerd(); break;
            case 5: call("fire", near(6), random.nextBoolean()); break;
            case 6: call("drover", near(4), below(2) == 0 ? near(10000) : below(90)); break;
            case 7: call("clouds", near(256)); break;
            case 8: call("seed", near(65536)); break;
            case 9: call("clouded"); break;
            case 10: call("keep"); break;
            case 11: call("undo"); break;
            case 12: call("feed", random.nextInt(), random.nextInt(), 0, 0, 0); break;
            default:
                int d = near(4);
                int i = near(inns);
                int times = below(6) == 0 ? 14 : 1;
                for (int k = 0; k < times; k++) {
                    call("pay", d, i, below(15) == 0 ? near(12) : 1 + below(9));
                }
                break;
        }
    }

    private void ask() throws Exception {
        switch (below(10)) {
            case 0: call("price", near(inns)); break;
            case 1: call("lit", near(18)); break;
            case 2: call("pull", near(6), near(18)); break;
            case 3: call("target", near(6)); break;
            case 4: call("tried", near(25), below(4) == 0 ? near(50) : 10 * (1 + below(4)) + below(6)); break;
            case 5: call("herdIs", near(6), near(6)); break;
            case 6: call("lampIs", near(12), near(4)); break;
            case 7: call("led", near(19)); break;
            case 8: call("count", below(3) == 0 ? near(300) : near(14)); break;
            default: call("count", 100 + below(196)); break;
        }
    }

    private void askAll() throws Exception {
        for (int h = 0; h < 6; h++) {
            for (int what = 0; what < 6; what++) {
                call("herdIs", h, what);
            }
            call("target", h);
        }
        for (int l = 0; l < 19; l++) {
            call("led", l);
        }
        for (int l = 0; l < 12; l++) {
            call("lampIs", l, 2);
            call("lampIs", l, 3);
        }
        for (int what = 0; what < 14; what++) {
            call("count", what);
        }
    }

    private void go() throws Exception {
        if (below(4) != 0) {
            int squares = below(40);
            for (int k = 0; k < squares; k++) {
                call("ground", below(14), below(14), 1 + below(3));
            }
            tellLaw();
            for (int k = 0; k < inns; k++) {
                call("inn", k, near(14), near(14), near(5));
            }
            int herds = 1 + below(5);
            for (int k = 0; k < herds; k++) {
                tellHerd();
            }
            if (below(2) == 0) {
                call("stray", 9 + below(3), below(14), below(14), near(5), random.nextBoolean());
                call("fire", near(6), true);
                call("fire", near(6), true);
            }
        }
        int steps = 20 + below(60);
        for (int k = 0; k < steps && calls < MOST_STEPS; k++) {
            int kind = below(20);
            if (kind < 7) {
                tell();
            } else if (kind < 12) {
                ask();
            } else if (kind < 14) {
                call("hour", near(10));
            } else if (kind < 15) {
                call("hours", below(3) == 0 ? near(25) : 1 + below(4));
            } else if (kind < 16) {
                if (below(3) == 0) {
                    tellLaw();
                }
            } else {
                askMore(below(8));
            }
        }
        askAll();
    }
}
