import java.nio.file.Files;
import java.nio.file.Path;
import java.util.function.Consumer;
import java.util.function.IntFunction;
import java.util.function.ToIntFunction;

/**
 * What the tests of edges share: each edge stands beside the words of the document that name it; a refused call is
 * made on one of two like objects, all of whose answers must be alike behind it.
 */
class Edges {
    static final int LOWEST = Integer.MIN_VALUE;
    static final int HIGHEST = Integer.MAX_VALUE;

    private static final Consumer<StarHerds> AS_IT_IS = x -> { };
    private static String document = "";
    private static String words = "";
    private static int edges = 0;
    private static int wrong = 0;

    /** Reads the document; the words of the edges that follow must stand in it. */
    static void open() throws Exception {
        document = Files.readString(Path.of("../shared/DOC.md")).replaceAll("\\s+", " ");
    }

    static void end(String name) {
        System.out.println(name + ": " + edges + " edges, " + wrong + " wrong answers");
        System.exit(wrong == 0 ? 0 : 1);
    }

    /** An edge that the document names by these words. */
    static void edge(String said, Runnable test) {
        words = said;
        edges++;
        if (!document.contains(said)) {
            wrong++;
            System.out.println("the document does not say: " + said);
        }
        test.run();
    }

    static void due(String what, long got, long want) {
        if (got != want) {
            wrong++;
            System.out.println("\"" + words + "\": " + what + " answered " + got + ", due is " + want);
        }
    }

    static void yes(String what, boolean got) {
        due(what, bit(got), 1);
    }

    static void no(String what, boolean got) {
        due(what, bit(got), 0);
    }

    static int bit(boolean is) {
        return is ? 1 : 0;
    }

    /** Bytes as the ints of feed, the last twenty filled up with 0. */
    static void feed(StarHerds x, int... bytes) {
        for (int k = 0; k < bytes.length; k += 20) {
            int[] five = new int[5];
            for (int b = 0; b < 20 && k + b < bytes.length; b++) {
                five[b / 4] |= bytes[k + b] << 24 - 8 * (b % 4);
            }
            x.feed(five[0], five[1], five[2], five[3], five[4]);
        }
    }

    /** Tells a text as the law over a tape that is empty at first. */
    static int law(StarHerds x, String text) {
        x.check(0);
        feed(x, text.chars().toArray());
        return x.law(text.length());
    }

    /** A new object with a law. */
    static StarHerds by(String law) {
        StarHerds x = new StarHerds();
        yes("the law " + law, law(x, law) > 0);
        return x;
    }

    /** An object with something of all that there is, and something else kept. */
    static StarHerds rich() {
        StarHerds x = by("a30-d+k(1=1);z3(1=1);s2(1=1);w7(1=1);x1(1=1);f5(1=1);b4+l+p(1=1);q5(1=1)");
        x.ground(7, 7, 3);
        x.ground(8, 2, 3);
        x.ground(6, 6, 2);
        x.ground(2, 1, 1);
        x.ground(2, 2, 1);
        x.inn(0, 2, 3, 1);
        x.inn(1, 9, 9, 2);
        x.inn(2, 4, 4, 0);
        x.inn(4, 12, 2, 2);
        x.inn(8, 10, 4, 4);
        x.stray(9, 6, 3, 3, true);
        x.stray(10, 12, 12, 0, false);
        x.drover(0, 100);
        x.drover(1, 50);
        x.drover(3, 9999);
        x.pay(0, 0, 3);
        x.dog(1, 4);
        x.herd(0, 2, 0, 40, 3, 55);
        x.hours(9);
        x.herd(2, 0, 13, 20, 0, 0);
        x.hour(0);
        x.herd(1, 6, 0, 30, 90, 10);
        x.herd(3, 3, 3, 0, 5, 6);
        x.herd(5, 10, 6, 15, 1, 2);
        x.fire(1, true);
        x.fire(3, true);
        x.clouds(0x3c);
        x.keep();
        x.herd(0, 2, 0, 44, 3, 55);
        x.hour(5);
        x.ground(9, 1, 1);
        x.ground(6, 6, 0);
        x.inn(2, 5, 4, 3);
        x.stray(10, 12, 11, 1, true);
        x.fire(1, false);
        x.fire(5, true);
        x.pay(3, 8, 2);
        x.dog(0, 1);
        x.drover(1, 51);
        x.clouds(0xaa);
        x.hours(1);
        x.seed(4711);
        x.feed(x.herdIs(0, 1), x.herdIs(1, 1), 20, 0, 0);
        return x;
    }

    /** All that can be asked of an object, with the calls that made it below 512; the tape is empty behind it. */
    static int[] all(StarHerds x) {
        int[] told = new int[400];
        int n = 0;
        for (int what = 0; what < 14; what++) {
            told[n++] = x.count(what);
        }
        for (int s = 0; s < 196; s++) {
            told[n++] = x.count(100 + s);
        }
        for (int l = 0; l < 18; l++) {
            told[n++] = x.lit(l);
            told[n++] = x.led(l);
        }
        told[n++] = x.led(18);
        for (int l = 0; l < 12; l++) {
            for (int what = 0; what < 4; what++) {
                told[n++] = x.lampIs(l, what);
            }
        }
        for (int h = 0; h < 6; h++) {
            for (int what = 0; what < 6; what++) {
                told[n++] = x.herdIs(h, what);
            }
            told[n++] = x.target(h);
        }
        for (int i = 0; i < 9; i++) {
            told[n++] = x.price(i);
        }
        told[n++] = x.tried(3, 0);
        told[n++] = x.check(Math.min(x.count(4) / 4, 6));
        return told;
    }

    /** A call that changes nothing at all. */
    static void stays(String what, ToIntFunction<StarHerds> call, int answer) {
        stays(what, AS_IT_IS, call, answer);
    }

    static void stays(String what, Consumer<StarHerds> before, ToIntFunction<StarHerds> call, int answer) {
        alike(what, before, call, answer, AS_IT_IS);
    }

    /** A call that answers something and changes nothing at all; it answers so again. */
    static void asks(String what, ToIntFunction<StarHerds> call) {
        StarHerds x = rich();
        int answer = call.applyAsInt(x);
        due(what + ", asked again", call.applyAsInt(x), answer);
        stays(what, call, answer);
    }

    /** A call that changes nothing but that the tape is empty behind it. */
    static void empties(String what, Consumer<StarHerds> before, ToIntFunction<StarHerds> call, int answer) {
        alike(what, before, call, answer, x -> x.check(0));
    }

    /** A call behind which all is as it is behind other calls, what was kept, too. */
    static void alike(String what, Consumer<StarHerds> before, ToIntFunction<StarHerds> call, int answer,
            Consumer<StarHerds> other) {
        for (int undone = 0; undone < 2; undone++) {
            StarHerds x = rich();
            StarHerds as = rich();
            before.accept(x);
            before.accept(as);
            due(what, call.applyAsInt(x), answer);
            other.accept(as);
            if (undone == 1) {
                due(what + ", undone", bit(x.undo()), bit(as.undo()));
            }
            int[] is = all(x);
            int[] was = all(as);
            for (int k = 0; k < is.length; k++) {
                due(what + (undone == 1 ? ", undone" : "") + ": number " + k + " behind it", is[k], was[k]);
            }
        }
    }

    /** Numbers of which those from low to high are taken and all others refused, without a change. */
    static void within(String what, int low, int high, IntFunction<ToIntFunction<StarHerds>> call, int refusal) {
        for (int inside : new int[] {low, low + 1, high - 1, high}) {
            if (inside >= low && inside <= high) {
                due(what + " " + inside + " is taken", bit(call.apply(inside).applyAsInt(rich()) != refusal), 1);
            }
        }
        for (int beyond : new int[] {low - 1, high + 1, LOWEST, HIGHEST}) {
            stays(what + " " + beyond, call.apply(beyond), refusal);
        }
    }

    /** Numbers that are refused without a change. */
    static void beyond(String what, IntFunction<ToIntFunction<StarHerds>> call, int refusal, int... numbers) {
        for (int number : numbers) {
            stays(what + " " + number, call.apply(number), refusal);
        }
    }

    /** What a herd 1 (20 cattle at 3, 4; thirst 7, fear 8) is pulled by an inn 3 (at 5, 5; kind 2) by a law. */
    static int pullBy(String law) {
        StarHerds x = by(law);
        x.herd(1, 3, 4, 20, 7, 8);
        x.inn(3, 5, 5, 2);
        return x.pull(1, 3);
    }

    /** The value of an E of a, within its bounds. */
    static int value(String e) {
        return pullBy("a" + e + "(1=1)");
    }

    /** Whether a C of a holds. */
    static int holds(String c) {
        return pullBy("a1(" + c + ")");
    }

    /** The answer of law() to a text. */
    static int said(String text) {
        return law(new StarHerds(), text);
    }
}
