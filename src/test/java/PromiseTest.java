/** Each promise of the document by answers that were reckoned by hand: ordinary calls, edges and wrong inputs. */
public final class PromiseTest {
    private static int wrong = 0;
    private static int promise = 0;

    private static void due(String what, long got, long want) {
        if (got != want) {
            wrong++;
            System.out.println("promise " + promise + ": " + what + " answered " + got + ", due is " + want);
        }
    }

    private static void yes(String what, boolean got) {
        due(what, got ? 1 : 0, 1);
    }

    private static void no(String what, boolean got) {
        due(what, got ? 1 : 0, 0);
    }

    /** Bytes as the ints of feed, the last ones filled up with 0. */
    private static void feed(StarHerds x, int... bytes) {
        for (int k = 0; k < bytes.length; k += 20) {
            int[] five = new int[5];
            for (int b = 0; b < 20 && k + b < bytes.length; b++) {
                five[b / 4] |= bytes[k + b] << 24 - 8 * (b % 4);
            }
            x.feed(five[0], five[1], five[2], five[3], five[4]);
        }
    }

    private static int law(StarHerds x, String text) {
        x.check(0);
        feed(x, text.chars().toArray());
        return x.law(text.length());
    }

    private static StarHerds by(String law) {
        StarHerds x = new StarHerds();
        yes("the law " + law, law(x, law) > 0);
        return x;
    }

    /** A herd of 20 at 3, 4 with thirst 7 and fear 8, and an inn of kind 2 at 5, 5: numbers 1 and 3. */
    private static int pullBy(String law) {
        StarHerds x = by(law);
        x.herd(1, 3, 4, 20, 7, 8);
        x.inn(3, 5, 5, 2);
        return x.pull(1, 3);
    }

    private static int value(String e) {
        return pullBy("a" + e + "(1=1)");
    }

    private static int holds(String c) {
        return pullBy("a1(" + c + ")");
    }

    public static void main(String[] args) {
        Runnable[] promises = {PromiseTest::p1, PromiseTest::p2, PromiseTest::p3, PromiseTest::p4, PromiseTest::p5,
            PromiseTest::p6, PromiseTest::p7, PromiseTest::p8, PromiseTest::p9, PromiseTest::p10, PromiseTest::p11,
            PromiseTest::p12, PromiseTest::p13, PromiseTest::p14, PromiseTest::p15, PromiseTest::p16,
            PromiseTest::p17, PromiseTest::p18, PromiseTest::p19, PromiseTest::p20, PromiseTest::p21,
            PromiseTest::p22, PromiseTest::p23, PromiseTest::p24, PromiseTest::p25, PromiseTest::p26,
            PromiseTest::p27, PromiseTest::p28, PromiseTest::p29, PromiseTest::p30, PromiseTest::p31,
            PromiseTest::p32, PromiseTest::p33, PromiseTest::p34, PromiseTest::p35, PromiseTest::p36};
        for (Runnable p : promises) {
            promise++;
            p.run();
        }
        System.out.println("PromiseTest: " + promises.length + " promises, " + wrong + " wrong answers");
        System.exit(wrong == 0 ? 0 : 1);
    }

    private static void p1() {
        StarHerds x = new StarHerds();
        due("NONE", StarHerds.NONE, -1);
        for (int what = 0; what <= 13; what++) {
            due("count(" + what + ")", x.count(what), what == 5 ? 1 : 0);
        }
        for (int s = 0; s < 196; s++) {
            due("sort of " + s, x.count(100 + s), 0);
        }
        for (int l = 0; l < 18; l++) {
            due("lit", x.lit(l), -1);
            due("led", x.led(l), 0);
            due("lampIs", x.lampIs(l, 0), -1);
        }
        for (int h = 0; h < 6; h++) {
            due("herdIs", x.herdIs(h, 0), -1);
        }
        no("undo", x.undo());
        due("a second object is its own", new StarHerds().count(9), 0);
    }

    private static void p2() {
        StarHerds x = new StarHerds();
        for (int sort = 0; sort < 4; sort++) {
            yes("a sort", x.ground(13, 12, sort));
            due("count", x.count(100 + 14 * 12 + 13), sort);
        }
        yes("as it is", x.ground(13, 12, 3));
        yes("the corners", x.ground(0, 0, 1) && x.ground(13, 13, 2));
        no("x", x.ground(14, 0, 0) || x.ground(-1, 0, 0));
        no("y", x.ground(0, 14, 0) || x.ground(0, -1, 0));
        no("sort", x.ground(0, 0, 4) || x.ground(0, 0, -1));
        due("unchanged", x.count(100), 1);
        x.inn(8, 2, 1, 0);
        x.stray(11, 3, 1, 0, false);
        x.herd(5, 4, 1, 1, 0, 0);
        x.herd(4, 5, 1, 0, 0, 0);
        x.herd(3, 6, 13, 1, 0, 0);
        no("a rock where an inn is", x.ground(2, 1, 3));
        no("a rock where a stray lamp is", x.ground(3, 1, 3));
        no("a rock where a herd is", x.ground(4, 1, 3));
        no("a rock where a herd will go through", x.ground(6, 13, 3));
        yes("a bog where a lamp and a herd are", x.ground(2, 1, 1) && x.ground(4, 1, 1));
        yes("a rock where a herd without cattle is", x.ground(5, 1, 3));
        x.gone(8);
        yes("a rock where an inn was", x.ground(2, 1, 3));
        x.hour(0);
        yes("a rock where a herd was", x.ground(4, 1, 3) && x.ground(6, 13, 3));
        no("a rock where that herd is now", x.ground(4, 2, 3));
        x.inn(0, 8, 8, 0);
        x.herd(0, 9, 8, 1, 0, 0);
        no("a rock where inn 0 or herd 0 is", x.ground(8, 8, 3) || x.ground(9, 8, 3));
    }

    private static void p3() {
        StarHerds x = by("b2(1=1)");
        no("numbers", x.inn(-1, 0, 0, 0) || x.inn(9, 0, 0, 0));
        no("squares", x.inn(0, -1, 0, 0) || x.inn(0, 14, 0, 0) || x.inn(0, 0, -1, 0) || x.inn(0, 0, 14, 0));
        no("kinds", x.inn(0, 0, 0, -1) || x.inn(0, 0, 0, 5));
        due("no inn yet", x.lampIs(0, 0), -1);
        yes("an inn", x.inn(0, 13, 13, 4) && x.inn(8, 0, 0, 0));
        due("square", x.lampIs(0, 0), 195);
        due("kind", x.lampIs(0, 1), 4);
        x.drover(0, 99);
        x.pay(0, 0, 3);
        x.dog(0, 5);
        x.ground(1, 1, 3);
        no("a rock", x.inn(0, 1, 1, 0));
        due("still the one before", x.lampIs(0, 0), 195);
        due("still paid", x.lampIs(0, 2), 3);
        yes("in place of the one before", x.inn(0, 2, 1, 1));
        due("square", x.lampIs(0, 0), 16);
        due("not paid", x.lampIs(0, 2), 0);
        due("no dog", x.lampIs(0, 3), 0);
        due("not lit", x.lit(0), 0);
    }

    private static void p4() {
        StarHerds x = new StarHerds();
        no("numbers", x.stray(8, 0, 0, 0, true) || x.stray(12, 0, 0, 0, true) || x.stray(-1, 0, 0, 0, true));
        no("squares", x.stray(9, -1, 0, 0, true) || x.stray(9, 14, 0, 0, true) || x.stray(9, 0, 14, 0, true));
        no("kinds", x.stray(9, 0, 0, 5, true) || x.stray(9, 0, 0, -1, true));
        x.ground(1, 1, 3);
        no("a rock", x.stray(9, 1, 1, 0, true));
        due("none yet", x.lit(9), -1);
        yes("stray lamps", x.stray(9, 3, 2, 4, true) && x.stray(11, 0, 0, 0, false));
        due("square", x.lampIs(9, 0), 31);
        due("kind", x.lampIs(9, 1), 4);
        due("lit as told", x.lit(9), 1);
        due("lit as told", x.lit(11), 0);
        yes("in place of the one before", x.stray(9, 4, 2, 1, false));
        due("square", x.lampIs(9, 0), 32);
        due("not lit", x.lit(9), 0);
    }

    private static void p5() {
        StarHerds x = new StarHerds();
        no("none there", x.gone(0) || x.gone(9));
        x.inn(0, 0, 0, 0);
        x.stray(11, 0, 0, 0, true);
        x.herd(0, 0, 0, 5, 0, 0);
        x.fire(0, true);
        no("numbers", x.gone(-1) || x.gone(12) || x.gone(18));
        yes("an inn", x.gone(0));
        no("twice", x.gone(0));
        yes("a stray lamp", x.gone(11));
        due("lit", x.lit(11), -1);
        due("lampIs", x.lampIs(0, 0), -1);
        due("the horns stay", x.lit(12), 1);
        due("bits", x.count(8), 1 << 12);
        x.inn(0, 1, 0, 0);
        due("a new one is not paid", x.lit(0), 0);
    }

    private static void p6() {
        StarHerds x = new StarHerds();
        no("none there", x.dog(0, 1));
        x.inn(0, 0, 0, 0);
        x.stray(9, 0, 0, 0, false);
        no("nights", x.dog(0, -1) || x.dog(0, 100));
        no("no inns", x.dog(-1, 1) || x.dog(9, 1) || x.dog(12, 1));
        yes("a dog", x.dog(0, 99));
        due("nights", x.lampIs(0, 3), 99);
        yes("a dog for one night", x.dog(0, 1));
        due("lit", x.lit(0), 1);
        x.hours(7);
        due("still lit", x.lit(0), 1);
        x.hours(1);
        due("not lit", x.lit(0), 0);
        due("not below 0", x.lampIs(0, 3), 0);
        x.hours(8);
        due("not below 0", x.lampIs(0, 3), 0);
        x.dog(0, 2);
        yes("no dog", x.dog(0, 0));
        due("not lit", x.lit(0), 0);
    }

    private static void p7() {
        StarHerds x = new StarHerds();
        no("numbers", x.herd(-1, 0, 0, 1, 0, 0) || x.herd(6, 0, 0, 1, 0, 0));
        no("squares", x.herd(0, -1, 0, 1, 0, 0) || x.herd(0, 14, 0, 1, 0, 0) || x.herd(0, 0, 14, 1, 0, 0)
            || x.herd(0, 0, -1, 1, 0, 0));
        no("cattle", x.herd(0, 0, 0, -1, 0, 0) || x.herd(0, 0, 0, 1000, 0, 0));
        no("thirst", x.herd(0, 0, 0, 1, -1, 0) || x.herd(0, 0, 0, 1, 100, 0));
        no("fear", x.herd(0, 0, 0, 1, 0, -1) || x.herd(0, 0, 0, 1, 0, 100));
        x.ground(1, 1, 3);
        no("a rock", x.herd(0, 1, 1, 1, 0, 0));
        due("none told", x.count(6), 0);
        yes("a herd", x.herd(0, 13, 13, 999, 99, 98));
        due("square", x.herdIs(0, 0), 195);
        due("cattle", x.herdIs(0, 1), 999);
        due("thirst", x.herdIs(0, 2), 99);
        due("fear", x.herdIs(0, 3), 98);
        x.fire(0, true);
        x.hour(0);
        due("through", x.herdIs(0, 0), 196);
        yes("in place of the one before", x.herd(0, 1, 0, 5, 0, 0));
        due("not through", x.herdIs(0, 5), 1);
        due("no fire", x.herdIs(0, 4), 0);
        yes("without cattle", x.herd(5, 1, 0, 0, 0, 0));
        due("told", x.count(6), 33);
        due("on", x.count(7), 1);
    }

    private static void p8() {
        StarHerds x = new StarHerds();
        no("none told", x.fire(0, true) || x.fire(0, false) || x.fire(-1, true) || x.fire(6, true));
        x.herd(0, 0, 13, 5, 0, 0);
        no("it is so", x.fire(0, false));
        yes("on fire", x.fire(0, true));
        due("fire", x.herdIs(0, 4), 1);
        due("lit", x.lit(12), 1);
        no("it is so", x.fire(0, true));
        yes("out", x.fire(0, false));
        due("lit", x.lit(12), 0);
        yes("on fire", x.fire(0, true));
        x.hour(0);
        due("through: still on fire", x.herdIs(0, 4), 1);
        due("through: not lit", x.lit(12), 0);
        yes("a herd that is through", x.fire(0, false));
    }

    private static void p9() {
        StarHerds x = new StarHerds();
        no("numbers", x.drover(-1, 0) || x.drover(4, 0));
        no("coins", x.drover(0, -1) || x.drover(0, 10000));
        yes("coins", x.drover(0, 9999) && x.drover(3, 7));
        due("coins", x.count(10), 9999);
        due("coins", x.count(13), 7);
        yes("coins anew", x.drover(0, 0));
        due("coins", x.count(10), 0);
    }

    private static void p10() {
        StarHerds x = new StarHerds();
        for (int k = 1; k <= 13; k++) {
            due("bytes", x.feed(k, -1, 0, 0, 0), 20 * k);
        }
        due("too many", x.feed(0, 0, 0, 0, 0), -1);
        due("bytes", x.count(4), 260);
        due("the first bytes first", x.check(1), 0);
        x.herd(0, 0, 0, 258, 0, 0);
        x.feed(258, 0, 0, 0, 0);
        due("the highest byte first", x.check(2), -1);
        x.feed('a' << 24 | '1' << 16 | '(' << 8 | '1', '=' << 24 | '1' << 16 | ')' << 8 | 200, 0, 0, 0);
        due("the highest byte first", x.law(7), 1);
    }

    private static void p11() {
        laws();
        faults();
        values();
        conditions();
        letters();
        bounds();
    }

    private static void laws() {
        StarHerds x = new StarHerds();
        due("no tape", x.law(1), -1);
        feed(x, new int[260]);
        due("no such n", x.law(0), -1);
        due("no such n", x.law(241), -1);
        due("no such n", x.law(-1), -1);
        due("the tape stays", x.count(4), 260);
        due("240 bytes", x.law(240), -1000);
        due("the tape is empty", x.count(4), 0);
        x.feed(0, 0, 0, 0, 0);
        due("it has not so many", x.law(21), -1);
        due("the tape stays", x.count(4), 20);
        due("a law", law(x, "a1(1=1);a2(1=1);q3(1=1)"), 3);
        due("clauses", x.count(3), 3);
        due("a fault", law(x, "a1(1=1);"), -1008);
        due("the text before stays", x.count(3), 3);
        due("the tape is empty", x.count(4), 0);
        due("in place of the one before", law(x, "b1(1=1)"), 1);
        x.herd(0, 0, 0, 1, 0, 0);
        x.inn(0, 0, 0, 0);
        due("no clause of that letter", x.pull(0, 0), 0);
        StringBuilder most = new StringBuilder("a1");
        while (most.length() < 234) {
            most.append("+1");
        }
        most.append("(1=01)");
        due("240 bytes", most.length(), 240);
        due("240 bytes", law(x, most.toString()), 1);
        due("all of them", x.pull(0, 0), 117);
    }

    private static void faults() {
        String[] texts = {"a", "1", "a(1=1)", "a1", "a1(", "a1(1", "a1(1=", "a1(1=1", "a1(1=1)a", "a1(1=1);", "a1 (1=1)",
            "A1(1=1)", "aa(1=1)", "a1+(1=1)", "a-1(1=1)", "a1(1)", "a1(1==1)", "a1(1=1=1)", "a1(!1)", "a1()",
            "a1((1)=1)", "a1([1]=1", "a[1(1=1)", "a1](1=1)", "a1((1=1)", "a1(1=1))", "a1(1=1|)", "a1(&1=1)",
            "a1(1=1&|1=1)", "aw(1=1)", "u1(1=1)", "a123456(1=1)", "a000000(1=1)", "a1(1=99999+123456)", "a1u(1=1)",
            "a[[[[[[[1", "a1(!!!!!!1=1)", "a1(!(!(!(1=1))))", "a1(((((([1]=1", "a1(!!!!![1]=1)", "a1(1=1&!!!!!1=[2])",
            "a1((((((1=1", "a1(1=[[[[[[2]]]]]])", "a1(1=1);;a1(1=1)", "\u00e91(1=1)"};
        int[] due = {-1001, -1000, -1001, -1002, -1003, -1004, -1005, -1006, -1007, -1008, -1002,
            -1000, -1001, -1003, -1001, -1004, -1005, -1006, -1005, -1003,
            -1005, -1008, -1003, -1002, -1008, -1007, -1007, -1003,
            -1007, -1001, -1000, -2006, -2006, -2016, -1002,
            -5007, -5008, -5008, -5008, -5008, -5014,
            -1011, -5010, -1008, -1000};
        for (int k = 0; k < texts.length; k++) {
            due(texts[k], law(new StarHerds(), texts[k]), due[k]);
        }
        String sixteen = "a1(1=1);".repeat(16);
        due("a 17th clause", law(new StarHerds(), sixteen + "a1(1=1)"), -4128);
        due("no 17th clause", law(new StarHerds(), sixteen + "1"), -1128);
        due("no end there", law(new StarHerds(), sixteen), -1128);
        due("sixteen", law(new StarHerds(), sixteen.substring(0, 127)), 16);
        due("a ! is open till its piece ends", law(new StarHerds(), "a1(!1=1&!1=1&!1=1&!1=1&!1=1&!1=1&!1=1)"), 1);
        due("six of E and six of C", law(new StarHerds(), "a[[[[[[1]]]]]](!(!([1]=1)))"), 1);
    }

    private static void values() {
        due("a number", value("00012"), 12);
        due("from the left", value("100-30-20"), 50);
        due("from the left", value("100/7*7"), 98);
        due("from the left", value("7*100/7"), 100);
        due("% and *", value("17%10*3"), 21);
        due("terms ahead of sums", value("2+3*4-10/5"), 12);
        due("brackets", value("[2+3]*[4-1]"), 15);
        due("towards 0", value("10+[0-7]/2"), 7);
        due("the sign of %", value("10+[0-7]%4"), 7);
        due("32 bits", value("[65536*65535+65535*1]/65536+9"), 9);
        due("32 bits", value("[32768*65535+32767+1]%1000+800"), 152);
        due("the lowest by -1", value("[32768*65535+32768]/[0-1]%1000+800"), 152);
        due("divided by 0", value("5/[d-3]"), 0);
        due("divided by 0", value("500+5%0"), 0);
        due("an E is 0, later clauses are not asked", pullBy("a1/0(1=1);a7(1=1)"), 0);
        due("the first that holds", pullBy("a4(1=2);b9(1=1);a5(1=1);a6(1=1)"), 5);
    }

    private static void conditions() {
        due("<", holds("1<2"), 1);
        due("<", holds("2<2"), 0);
        due(">", holds("2>1"), 1);
        due(">", holds("2>2"), 0);
        due("=", holds("2=2"), 1);
        due("=", holds("2=3"), 0);
        due("below 0", holds("0-5<0-4"), 1);
        due("& ahead of |", holds("1=1|1=1&1=2"), 1);
        due("& ahead of |", holds("1=2&1=1|1=1"), 1);
        due("( )", holds("(1=1|1=1)&1=2"), 0);
        due("!", holds("!1=2&1=1"), 1);
        due("! of a piece alone", holds("!1=1&1=2|1=1"), 1);
        due("! of a piece alone", holds("!1=1|1=2"), 0);
        due("!!", holds("!!1=1"), 1);
        due("!( )", holds("!(1=1&1=2)"), 1);
        due("refused", holds("1/0=1"), 0);
        due("refused through !", holds("!1/0=1"), 0);
        due("refused through ( ) and |", holds("(!(1%0=1))|1=1"), 0);
        due("not asked", holds("1=1|1/0=1"), 1);
        due("not asked", holds("1=2&1/0=1|1=1"), 1);
        due("not asked", holds("!(1=1|1/0=1)|1=1"), 1);
        due("asked", holds("1=1&1/0=1|1=1"), 0);
        due("refused: the next clause", pullBy("a4(1/0=0|1=1);a5(1=1)"), 5);
    }

    private static void letters() {
        due("all of a", value("h+100*[e+t]"), 999);
        due("h", value("h"), 1);
        due("n", value("n"), 20);
        due("t", value("t"), 7);
        due("e", value("e"), 8);
        due("x", value("x"), 3);
        due("y", value("y"), 4);
        due("l", value("l"), 3);
        due("k", value("k"), 2);
        due("d", value("d"), 3);
        due("r", value("r"), 0);
        due("p", value("p"), 0);
        StarHerds x = by("ag*100+c*10+u+v(1=1)");
        x.hours(8);
        x.hours(5);
        x.herd(0, 0, 0, 1, 0, 0);
        x.inn(0, 0, 0, 0);
        x.ground(0, 0, 2);
        x.clouds(1 << 5);
        due("g, c, u, v", x.pull(0, 0), 216);
        x.clouds(255 - (1 << 5));
        due("c", x.pull(0, 0), 206);
        x = by("w1+h+n*2+t+e+x+y+g+c+r+l+k+d+p(1=1)");
        x.ground(2, 1, 1);
        x.herd(3, 2, 0, 4, 5, 6);
        x.clouds(1);
        x.hour(9);
        due("h n t e x y g c r of w", x.herdIs(3, 2), 5 + 1 + 3 + 8 + 5 + 6 + 2 + 1 + 1 + 1 + 9);
        x = by("s1(1=1);x2(1=1);w90+n(1=1);fn+t(1=1)");
        x.ground(0, 1, 1);
        x.herd(0, 0, 0, 9, 3, 0);
        due("one sinks, two die", x.hour(0), 3);
        due("n behind (3), 3 + 90 + 8", x.herdIs(0, 2), 99);
        due("n and t behind (4), 6 + 99", x.herdIs(0, 3), 99);
        x = by("b[u+v+h+n+t+e+x+y+g+c+r+d]*100+l*10+k(1=1);qh+n+t+e+x+y+g+c+r+l+k+d+p(1=1)");
        x.ground(0, 0, 1);
        x.inn(7, 0, 0, 4);
        x.herd(1, 0, 0, 9, 9, 9);
        x.clouds(255);
        due("what is not told in b is 0", x.price(7), 74);
        due("what is not told in q is 0", x.clouded(), 0);
    }

    private static void bounds() {
        due("a", value("99999"), 999);
        due("a", value("0-1"), 0);
        StarHerds x = by("b99999(1=1)");
        x.inn(0, 0, 0, 0);
        due("b", x.price(0), 999);
        law(x, "b0-1(1=1)");
        due("b", x.price(0), 0);
        x = by("s100(1=1);w100(1=1);x100(1=1);f100(1=1)");
        x.ground(0, 1, 1);
        x.herd(0, 0, 0, 300, 0, 0);
        due("s and x", x.hour(0), 198);
        due("w", x.herdIs(0, 2), 99);
        due("f", x.herdIs(0, 3), 99);
        x = by("w0-5(1=1);s0-5(1=1);f0-200(1=1);x0-5(1=1)");
        x.ground(0, 1, 1);
        x.herd(0, 0, 0, 300, 99, 99);
        due("s and x", x.hour(0), 0);
        due("w", x.herdIs(0, 2), 99);
        due("f", x.herdIs(0, 3), 0);
        x = by("z99(1=1)");
        x.herd(0, 5, 5, 3, 0, 99);
        x.hour(9);
        due("z", x.herdIs(0, 0), 77);
        law(x, "z0-1(1=1)");
        x.herd(0, 5, 5, 3, 0, 99);
        x.hour(0);
        due("z", x.herdIs(0, 0), 89);
        x = by("w0-5(1=1)");
        x.herd(0, 5, 5, 3, 50, 0);
        x.hour(0);
        due("w", x.herdIs(0, 2), 50);
        x = by("q99(u=0);q0-1(u=1)");
        due("q", x.clouded(), 1);
    }

    private static void p12() {
        StarHerds x = new StarHerds();
        due("none there", x.price(0), -1);
        x.inn(0, 0, 0, 3);
        x.inn(8, 0, 0, 2);
        x.stray(9, 0, 0, 0, true);
        due("no law", x.price(0), 0);
        law(x, "b100*u+10*v+p+k(l=0);b5(l=8)");
        due("k", x.price(0), 3);
        due("l", x.price(8), 5);
        due("no inns", x.price(9), -1);
        due("no inns", x.price(-1), -1);
        due("no inns", x.price(12), -1);
        x.drover(0, 99);
        x.pay(0, 0, 9);
        due("p", x.price(0), 12);
        x.dog(0, 50);
        due("not the dog's nights", x.price(0), 12);
        x.hours(10);
        due("u, v, p", x.price(0), 200 + 10 + 8 + 3);
    }

    private static void p13() {
        StarHerds x = by("b5+p(1=1)");
        x.inn(0, 0, 0, 0);
        x.stray(9, 0, 0, 0, true);
        x.drover(0, 40);
        due("drovers", x.pay(-1, 0, 1), -1);
        due("drovers", x.pay(4, 0, 1), -1);
        due("inns", x.pay(0, 1, 1), -1);
        due("inns", x.pay(0, -1, 1), -1);
        due("inns", x.pay(0, 9, 1), -1);
        due("nights", x.pay(0, 0, 0), -1);
        due("nights", x.pay(0, 0, 10), -1);
        due("not so many", x.pay(0, 0, 9), -2);
        due("nothing given", x.count(10), 40);
        due("all it has", x.pay(0, 0, 8), 40);
        due("coins", x.count(10), 0);
        due("paid", x.lampIs(0, 2), 8);
        due("lit", x.lit(0), 1);
        due("asked now", x.pay(0, 0, 1), -2);
        x.drover(1, 9999);
        due("asked now", x.pay(1, 0, 1), 13);
        law(x, "b1(1=1)");
        for (int k = 0; k < 10; k++) {
            due("nine nights", x.pay(1, 0, 9), 9);
        }
        due("99 nights", x.lampIs(0, 2), 99);
        due("more than 99", x.pay(1, 0, 1), -3);
        due("-2 ahead of -3", x.pay(2, 0, 1), -2);
        due("coins", x.count(11), 9999 - 13 - 90);
        x.hours(8);
        due("a night less", x.lampIs(0, 2), 98);
        due("98 and 2", x.pay(1, 0, 2), -3);
        due("98 and 1", x.pay(1, 0, 1), 1);
        x.inn(8, 0, 0, 0);
        x.drover(3, 2);
        due("the last drover, the last inn", x.pay(3, 8, 2), 2);
    }

    private static void p14() {
        StarHerds x = by("a9(1=1)");
        no("bits", x.clouds(-1) || x.clouds(256));
        yes("bits", x.clouds(255));
        due("bits", x.count(2), 255);
        yes("bits", x.clouds(2));
        due("bits", x.count(2), 2);
        x.herd(0, 0, 0, 9, 0, 0);
        x.stray(9, 5, 0, 0, true);
        due("HOUR 0 is clear", x.target(0), 9);
        x.hour(0);
        due("HOUR 1 is clouded", x.target(0), -2);
        x.herd(0, 2, 0, 9, 0, 0);
        due("3 of the way", x.target(0), 9);
        x.hours(7);
        due("none in the next night", x.count(2), 0);
        yes("no clouds", x.clouds(0));
    }

    private static void p15() {
        StarHerds x = by("b1(1=1)");
        due("numbers", x.lit(-1), -1);
        due("numbers", x.lit(18), -1);
        due("not there", x.lit(0), -1);
        due("not told", x.lit(17), -1);
        x.inn(0, 0, 0, 0);
        due("not lit", x.lit(0), 0);
        x.dog(0, 1);
        due("a dog", x.lit(0), 1);
        x.dog(0, 0);
        x.drover(0, 1);
        x.pay(0, 0, 1);
        due("paid", x.lit(0), 1);
        x.hours(8);
        due("behind the night", x.lit(0), 0);
        x.stray(11, 0, 0, 0, true);
        due("a stray lamp", x.lit(11), 1);
        x.herd(5, 0, 0, 0, 0, 0);
        x.fire(5, true);
        due("without cattle", x.lit(17), 0);
        x.herd(5, 0, 0, 1, 0, 0);
        due("no fire", x.lit(17), 0);
        x.fire(5, true);
        due("horns", x.lit(17), 1);
    }

    private static void p16() {
        StarHerds x = by("a100*k+10*l+d(1=1)");
        x.herd(0, 0, 0, 1, 0, 0);
        x.herd(1, 3, 2, 1, 0, 0);
        x.herd(2, 3, 2, 0, 0, 0);
        x.inn(1, 13, 13, 2);
        due("however far, not lit", x.pull(0, 1), 236);
        due("horns, no fire", x.pull(0, 13), 500 + 130 + 5);
        due("its own horns", x.pull(0, 12), -1);
        due("its own horns", x.pull(1, 13), -1);
        due("others'", x.pull(1, 12), 500 + 120 + 5);
        due("horns of none", x.pull(0, 14), -1);
        due("horns not told", x.pull(0, 15), -1);
        due("not there", x.pull(0, 0), -1);
        due("no such lamp", x.pull(0, 18), -1);
        due("no such lamp", x.pull(0, -1), -1);
        due("not on", x.pull(2, 1), -1);
        due("not told", x.pull(3, 1), -1);
        due("no such herd", x.pull(6, 1), -1);
        due("no such herd", x.pull(-1, 1), -1);
        x.gone(1);
        due("gone", x.pull(0, 1), -1);
    }

    private static void p17() {
        StarHerds x = by("a9+k(1=1)");
        due("not told", x.target(0), -1);
        x.herd(0, 3, 3, 0, 0, 0);
        due("without cattle", x.target(0), -1);
        due("no such herd", x.target(6), -1);
        due("no such herd", x.target(-1), -1);
        x.herd(0, 3, 3, 5, 0, 0);
        due("none", x.target(0), -2);
        x.fire(0, true);
        due("not its own horns", x.target(0), -2);
        x.stray(11, 6, 7, 4, true);
        due("7 of the way", x.target(0), -2);
        x.stray(11, 6, 6, 4, true);
        due("6 of the way", x.target(0), 11);
        x.clouds(1);
        due("clouds", x.target(0), -2);
        x.stray(11, 4, 5, 4, true);
        due("3 of the way by clouds", x.target(0), 11);
        x.clouds(0);
        x.stray(10, 6, 6, 4, true);
        x.stray(9, 2, 2, 3, true);
        due("the lowest of like ones", x.target(0), 10);
        x.stray(10, 6, 6, 4, false);
        due("lit ones alone", x.target(0), 11);
        x.inn(2, 3, 3, 4);
        due("not paid", x.target(0), 11);
        x.dog(2, 1);
        due("the inn where it is", x.target(0), 2);
        x.herd(5, 9, 3, 1, 0, 0);
        x.fire(5, true);
        due("horns pull most", x.target(0), 17);
        x.herd(3, 3, 3, 1, 0, 0);
        x.fire(3, true);
        x.fire(5, false);
        due("others' horns", x.target(3), 12);
        x.fire(0, false);
        due("not its own horns", x.target(3), 2);
        x.fire(0, true);
        law(x, "a1(1=1)");
        due("above 0", x.target(3), 2);
        law(x, "ah(1=1)");
        due("by the herd", x.target(3), 2);
        due("by the herd", x.target(0), -2);
        law(x, "ar(1=1)");
        x.hour(9);
        due("no draw", x.target(0), -2);
        law(x, "a0(1=1)");
        due("not above 0", x.target(0), -2);
        x.hours(24);
        due("through", x.target(0), -1);
    }

    private static void p18() {
        StarHerds x = by("s2(1=1);s1(1=1)");
        due("n", x.hours(0), -1);
        due("n", x.hours(25), -1);
        due("n", x.hours(-1), -1);
        due("X stays", x.count(5), 1);
        for (int y = 0; y < 14; y++) {
            x.ground(0, y, 1);
        }
        x.herd(0, 0, 0, 9, 0, 0);
        due("lost", x.hours(2), 4);
        due("X", x.count(5), (25173 * 39022 + 13849) & 65535);
        due("hour", x.count(1), 2);
        due("lost, as many as there are", x.hours(3), 5);
        due("where", x.herdIs(0, 0), 70);
        due("24 hours", x.hours(24), 0);
        due("night", x.count(0), 3);
        due("hour", x.count(1), 5);
        // The draws from 1 on are 2 and 7.
        x = by("z3(1=1)");
        x.seed(1);
        x.herd(0, 5, 5, 9, 0, 50);
        x.hours(1);
        due("draw 2: y - 1, twice", x.herdIs(0, 0), 14 * 3 + 5);
        x.hours(1);
        due("draw 7", x.herdIs(0, 0), 14 * 4 + 5);
    }

    private static void p19() {
        StarHerds x = new StarHerds();
        due("draws", x.hour(-1), -1);
        due("draws", x.hour(10), -1);
        due("no hour", x.count(1), 0);
        due("an hour without herds", x.hour(9), 0);
        due("X stays", x.count(5), 1);
        due("hour", x.count(1), 1);
        targets();
        stampedes();
        paths();
        losses();
        nights();
    }

    private static int walk(StarHerds x, int fromX, int fromY, int toX, int toY) {
        x.herd(0, fromX, fromY, 9, 0, 0);
        x.stray(9, toX, toY, 0, true);
        x.hour(0);
        return x.herdIs(0, 0);
    }

    private static void targets() {
        StarHerds x = by("a9(1=1)");
        due("it stays", walk(x, 5, 5, 5, 5), 75);
        due("x", walk(x, 5, 5, 7, 6), 76);
        due("one x", walk(x, 5, 5, 6, 5), 76);
        due("x below", walk(x, 5, 5, 2, 6), 74);
        due("y", walk(x, 5, 5, 6, 7), 89);
        due("y below", walk(x, 5, 5, 4, 3), 61);
        due("like ones by x", walk(x, 5, 5, 7, 3), 76);
        x.herd(0, 0, 0, 9, 0, 0);
        yes("a rock", x.ground(6, 5, 3));
        due("a rock: the other one", walk(x, 5, 5, 7, 6), 89);
        due("a rock, none other", walk(x, 5, 5, 8, 5), 75);
        x.herd(0, 0, 0, 9, 0, 0);
        yes("a rock", x.ground(5, 6, 3));
        due("both rocks", walk(x, 5, 5, 7, 6), 75);
        due("a rock in y: by x below", walk(x, 5, 5, 4, 7), 74);
        due("a rock in y: by x", walk(x, 5, 5, 6, 8), 75);
        x.ground(6, 5, 0);
        due("a rock in y: by one x", walk(x, 5, 5, 6, 8), 76);
        x.ground(6, 5, 3);
        due("a rock in y, none other", walk(x, 5, 5, 5, 8), 75);
        x.gone(9);
        x.herd(0, 5, 5, 9, 0, 0);
        x.hour(0);
        due("no target, a rock: it stays", x.herdIs(0, 0), 75);
        x.herd(0, 7, 5, 9, 0, 0);
        x.hour(0);
        due("no target: y + 1", x.herdIs(0, 0), 91);
        due("a target at y 13: it stays", walk(x, 5, 13, 5, 13), 187);
        x.gone(9);
        x.ground(5, 13, 1);
        law(x, "s5(1=1);w5(1=1);f5(1=1)");
        due("through: none sinks", x.hour(0), 0);
        due("through", x.herdIs(0, 0), 196);
        due("cattle", x.herdIs(0, 1), 9);
        due("no thirst, no fear", x.herdIs(0, 2) + x.herdIs(0, 3), 0);
        // A herd that goes ahead takes its horns along, and one that goes through puts them out.
        x = by("a9(1=1)");
        x.herd(0, 5, 12, 9, 0, 0);
        x.fire(0, true);
        x.herd(1, 5, 6, 9, 0, 0);
        x.hour(0);
        due("by then 7 of the way", x.herdIs(1, 0), 14 * 7 + 5);
        x.herd(1, 8, 12, 9, 0, 0);
        due("horns ahead of it", x.target(1), 12);
        x.hour(0);
        due("by then through", x.herdIs(1, 0), 14 * 13 + 8);
    }

    private static int run(StarHerds x, int fromX, int fromY, int draw) {
        x.herd(0, fromX, fromY, 9, 0, 50);
        x.hour(draw);
        return x.herdIs(0, 0);
    }

    private static void stampedes() {
        StarHerds x = by("zr+1(1=1)");
        due("y + 1", run(x, 5, 5, 0), 14 * 7 + 5);
        due("x + 1", run(x, 5, 5, 1), 14 * 5 + 7);
        due("y - 1", run(x, 5, 5, 2), 14 * 3 + 5);
        due("x - 1", run(x, 5, 5, 3), 14 * 5 + 3);
        due("modulo 4", run(x, 5, 5, 9), 14 * 5 + 7);
        due("not beyond", run(x, 12, 5, 1), 14 * 5 + 13);
        due("not beyond", run(x, 0, 5, 3), 14 * 5);
        due("not beyond", run(x, 5, 1, 2), 5);
        due("not through", run(x, 5, 13, 0), 14 * 13 + 5);
        x.ground(7, 5, 3);
        due("no rock", run(x, 5, 5, 1), 14 * 5 + 6);
        due("no rock", run(x, 6, 5, 1), 14 * 5 + 6);
        due("not over a rock", run(x, 8, 5, 3), 14 * 5 + 8);
        x.herd(0, 5, 5, 9, 0, 49);
        x.hour(1);
        due("fear 49", x.herdIs(0, 0), 14 * 6 + 5);
        law(x, "a9(1=1);z4(1=1);s2(1=1)");
        x.stray(9, 5, 5, 0, true);
        due("draw 4: to the lamp", run(x, 5, 8, 4), 14 * 7 + 5);
        x.ground(5, 10, 1);
        due("draw 0: past the lamp", run(x, 5, 8, 0), 14 * 10 + 5);
        due("led to nobody", x.led(18), 2);
        due("not to the lamp", x.led(9), 0);
        x.ground(5, 7, 1);
        due("draw 9: to the lamp", run(x, 5, 8, 9), 14 * 7 + 5);
        due("led to the lamp", x.led(9), 2);
    }

    private static void paths() {
        StarHerds x = by("w50(1=1);f20(1=1)");
        x.ground(0, 2, 2);
        x.ground(0, 3, 1);
        x.herd(0, 0, 0, 9, 0, 70);
        x.hour(0);
        due("thirst", x.herdIs(0, 2), 50);
        due("fear", x.herdIs(0, 3), 90);
        x.hour(0);
        due("on a well", x.herdIs(0, 2), 0);
        due("fear 99 at most", x.herdIs(0, 3), 99);
        x.hour(0);
        due("on a bog w more, too", x.herdIs(0, 2), 50);
        x.hour(0);
        due("thirst 99 at most", x.herdIs(0, 2), 99);
        law(x, "f0-60(1=1)");
        x.hour(0);
        due("fear less", x.herdIs(0, 3), 39);
        x.hour(0);
        due("fear not below 0", x.herdIs(0, 3), 0);
    }

    private static void losses() {
        StarHerds x = by("s4(1=1);w9(1=1);x3(1=1);f7(1=1)");
        x.ground(0, 1, 1);
        x.herd(0, 0, 0, 20, 90, 0);
        due("four sink, three die", x.hour(0), 7);
        due("cattle", x.herdIs(0, 1), 13);
        x.ground(0, 1, 2);
        x.herd(0, 0, 0, 20, 99, 0);
        due("a well: none dies", x.hour(0), 0);
        x.ground(0, 1, 1);
        x.herd(0, 0, 0, 3, 80, 0);
        due("as many as there are", x.hour(0), 3);
        due("w more, also if none is left", x.herdIs(0, 2), 89);
        due("f more, also if none is left", x.herdIs(0, 3), 7);
        due("not on", x.herdIs(0, 5), 0);
        x.hour(0);
        due("not on: it stays", x.herdIs(0, 0), 14);
        due("not on: no thirst", x.herdIs(0, 2), 89);
        x.herd(0, 0, 0, 5, 95, 0);
        due("four sink, one dies", x.hour(0), 5);
        due("led to nobody", x.led(18), 7 + 3 + 5);
        // Horns lead, too: the herd ahead of it burns.
        x = by("a9(k=5);s2(1=1)");
        x.herd(3, 2, 5, 1, 0, 0);
        x.fire(3, true);
        x.ground(2, 3, 1);
        x.herd(1, 2, 2, 9, 0, 0);
        due("two sink", x.hour(0), 2);
        due("led to horns", x.led(15), 2);
    }

    private static void nights() {
        StarHerds x = by("b1(1=1)");
        x.inn(0, 0, 0, 0);
        x.inn(1, 1, 0, 0);
        x.drover(0, 9);
        x.pay(0, 0, 2);
        x.dog(1, 3);
        x.dog(0, 1);
        x.clouds(255);
        for (int k = 0; k < 7; k++) {
            x.hour(0);
        }
        due("HOUR", x.count(1), 7);
        due("clouds", x.count(2), 255);
        due("paid", x.lampIs(0, 2), 2);
        x.hour(0);
        due("THE NIGHT", x.count(0), 1);
        due("HOUR", x.count(1), 0);
        due("no clouds", x.count(2), 0);
        due("paid", x.lampIs(0, 2), 1);
        due("dog", x.lampIs(0, 3), 0);
        due("dog", x.lampIs(1, 3), 2);
        due("not below 0", x.lampIs(1, 2), 0);
    }

    private static void p20() {
        StarHerds x = by("s2(1=1);w9(1=1);f3(1=1);a9(1=1)");
        x.ground(0, 1, 1);
        x.ground(0, 12, 1);
        x.herd(0, 0, 0, 9, 0, 0);
        x.herd(4, 0, 11, 9, 0, 0);
        due("n", x.tried(0, 0), -1);
        due("n", x.tried(25, 0), -1);
        due("what", x.tried(1, -1), -1);
        due("what", x.tried(1, 3), -1);
        due("what", x.tried(1, 9), -1);
        due("not told", x.tried(1, 11), -1);
        due("no herd", x.tried(1, 16), -1);
        due("what", x.tried(1, 50), -1);
        due("lost", x.tried(1, 0), 4);
        due("living", x.tried(3, 1), 14);
        due("through", x.tried(2, 2), 0);
        due("through", x.tried(3, 2), 7);
        x.herd(1, 0, 13, 5, 0, 0);
        due("through", x.tried(1, 2), 5);
        x.herd(1, 0, 13, 0, 0, 0);
        due("cattle", x.tried(1, 10), 7);
        due("cattle", x.tried(1, 14), 7);
        due("square", x.tried(2, 20), 28);
        due("square", x.tried(3, 24), 196);
        due("thirst", x.tried(2, 30), 18);
        due("thirst", x.tried(3, 34), 18);
        due("fear", x.tried(3, 40), 9);
        due("24 hours", x.tried(24, 1), 12);
        due("nothing is changed", x.herdIs(0, 0), 0);
        due("nothing is changed", x.led(18), 0);
        due("nothing is changed", x.count(5), 1);
        due("nothing is changed", x.count(1), 0);
        // Clouds as they are, then none: the lamp is 5 off, ever ahead in the bits' hour.
        x = by("a9(1=1)");
        x.stray(9, 5, 0, 0, true);
        x.herd(0, 0, 0, 9, 0, 0);
        due("no clouds", x.tried(1, 20), 1);
        x.clouds(1);
        due("clouds", x.tried(1, 20), 14);
        x.clouds(254);
        due("no clouds in this hour", x.tried(1, 20), 1);
        x.hours(7);
        x.herd(0, 0, 0, 9, 0, 0);
        x.stray(9, 6, 0, 0, true);
        x.clouds(128 + 3);
        due("none in the next night", x.tried(2, 20), 28);
        x.stray(9, 5, 0, 0, true);
        due("none in the next night", x.tried(2, 20), 15);
        // The draws are those that will come: 2, then 7.
        x = by("zr+1(1=1)");
        x.herd(0, 5, 5, 9, 0, 50);
        due("draw 2", x.tried(1, 20), 14 * 3 + 5);
        due("draw 7", x.tried(2, 20), 14 * 3 + 3);
    }

    private static void p21() {
        StarHerds x = new StarHerds();
        due("not told", x.herdIs(0, 0), -1);
        due("no herd", x.herdIs(6, 0), -1);
        due("no herd", x.herdIs(-1, 0), -1);
        x.herd(5, 3, 13, 7, 8, 9);
        due("square", x.herdIs(5, 0), 185);
        due("cattle", x.herdIs(5, 1), 7);
        due("thirst", x.herdIs(5, 2), 8);
        due("fear", x.herdIs(5, 3), 9);
        due("fire", x.herdIs(5, 4), 0);
        due("on", x.herdIs(5, 5), 1);
        due("what", x.herdIs(5, 6), -1);
        due("what", x.herdIs(5, -1), -1);
        x.fire(5, true);
        x.hour(0);
        due("through", x.herdIs(5, 0), 196);
        due("cattle", x.herdIs(5, 1), 7);
        due("fire", x.herdIs(5, 4), 1);
        due("on", x.herdIs(5, 5), 0);
    }

    private static void p22() {
        StarHerds x = by("b1(1=1)");
        due("not there", x.lampIs(0, 0), -1);
        x.inn(0, 3, 4, 2);
        x.stray(9, 1, 0, 1, true);
        x.herd(0, 0, 0, 1, 0, 0);
        x.drover(0, 5);
        x.pay(0, 0, 5);
        x.dog(0, 7);
        due("square", x.lampIs(0, 0), 59);
        due("kind", x.lampIs(0, 1), 2);
        due("paid", x.lampIs(0, 2), 5);
        due("dog", x.lampIs(0, 3), 7);
        due("square", x.lampIs(9, 0), 1);
        due("kind", x.lampIs(9, 1), 1);
        due("a stray one", x.lampIs(9, 2), 0);
        due("a stray one", x.lampIs(9, 3), 0);
        due("what", x.lampIs(0, 4), -1);
        due("what", x.lampIs(0, -1), -1);
        due("horns", x.lampIs(12, 0), -1);
        due("no lamp", x.lampIs(-1, 0), -1);
    }

    private static void p23() {
        StarHerds x = by("a9(1=1);s2(1=1)");
        due("numbers", x.led(-1), -1);
        due("numbers", x.led(19), -1);
        x.ground(0, 1, 1);
        x.ground(5, 1, 1);
        x.stray(11, 0, 2, 0, true);
        x.herd(0, 0, 0, 9, 0, 0);
        x.herd(1, 12, 0, 9, 0, 0);
        x.ground(12, 1, 1);
        x.hour(0);
        due("led to the lamp", x.led(11), 2);
        due("led to nobody", x.led(18), 2);
        x.herd(0, 0, 0, 9, 0, 0);
        x.hour(0);
        due("more of them", x.led(11), 4);
        x.gone(11);
        due("also when it is gone", x.led(11), 4);
        due("others", x.led(0), 0);
        x.inn(0, 0, 2, 0);
        x.dog(0, 1);
        x.herd(0, 0, 0, 9, 0, 0);
        x.hour(0);
        due("led to inn 0", x.led(0), 2);
    }

    /** Herd 0 goes down column 0 over bogs; inns 0 and 1 lead it off to the right from two places. */
    private static StarHerds planned() {
        StarHerds x = by("a9-k(1=1);s5(y<3);s9(1=1);b4+l(l<2);b1(1=1)");
        x.ground(0, 2, 1);
        x.ground(0, 5, 1);
        x.herd(0, 0, 0, 30, 0, 0);
        x.inn(0, 3, 0, 0);
        x.inn(1, 5, 4, 1);
        return x;
    }

    private static void p24() {
        StarHerds x = planned();
        due("coins", x.plan(-1, 0), -1);
        due("coins", x.plan(10000, 0), -1);
        due("what", x.plan(9, -1), -1);
        due("what", x.plan(9, 3), -1);
        due("none", x.plan(3, 0), 0);
        due("none", x.plan(3, 1), 0);
        due("14 sink", x.plan(3, 2), 16);
        due("the first", x.plan(4, 0), 1);
        due("coins", x.plan(4, 1), 4);
        due("all live", x.plan(4, 2), 30);
        due("the least coins", x.plan(9999, 0), 1);
        x.gone(0);
        due("the other: it goes over the first bog", x.plan(5, 0), 2);
        due("coins", x.plan(5, 1), 5);
        due("living", x.plan(5, 2), 25);
        x.inn(0, 3, 0, 0);
        x.dog(0, 1);
        due("one that is lit is none of it", x.plan(9999, 0), 0);
        due("living", x.plan(9999, 2), 30);
        x.dog(0, 0);
        x.inn(8, 3, 0, 0);
        x.inn(7, 3, 0, 0);
        due("the least set of like ones", x.plan(9999, 0), 128);
        due("coins", x.plan(9999, 1), 1);
        due("nothing is changed", x.lit(7) + x.herdIs(0, 0) + x.count(5), 1);
        x.hours(1);
        due("what is left of the night", x.plan(0, 2), 16);
        x = by("a9(1=1);s9(1=1);b3(1=1)");
        x.ground(0, 2, 1);
        x.herd(0, 0, 0, 30, 0, 0);
        x.hours(6);
        x.herd(0, 0, 0, 30, 0, 0);
        due("two hours are left", x.plan(0, 2), 21);
        x.hours(1);
        x.herd(0, 0, 0, 30, 0, 0);
        due("one hour is left", x.plan(0, 2), 30);
    }

    private static void p25() {
        StarHerds x = planned();
        due("what", x.safe(-1), -1);
        due("what", x.safe(2), -1);
        due("inns", x.safe(0), 1);
        due("coins", x.safe(1), 4);
        x.inn(5, 3, 0, 0);
        x.inn(6, 3, 0, 0);
        due("the least set of like ones", x.safe(0), 32);
        due("coins", x.safe(1), 1);
        x.gone(0);
        x.gone(5);
        x.gone(6);
        due("some are lost anyway", x.safe(0), -2);
        due("some are lost anyway", x.safe(1), -2);
        x.ground(0, 2, 0);
        due("the other does", x.safe(0), 2);
        x.ground(0, 5, 0);
        due("none is needed", x.safe(0), 0);
        due("coins", x.safe(1), 0);
    }

    private static void p26() {
        StarHerds x = planned();
        due("no inn", x.place(2, 0), -1);
        due("no inn", x.place(9, 0), -1);
        due("no inn", x.place(-1, 0), -1);
        due("what", x.place(0, 2), -1);
        due("what", x.place(0, -1), -1);
        due("the lowest square", x.place(0, 0), 0);
        due("living", x.place(0, 1), 30);
        x.ground(1, 0, 3);
        x.ground(0, 0, 1);
        due("0 is a bog now: by lamps there and right of it it stays there", x.place(0, 0), 14);
        due("living", x.place(0, 1), 30);
        due("nothing is changed", x.lampIs(0, 0), 3);
        due("nothing is changed", x.lit(0), 0);
        x = by("a9(1=1);s9(1=1)");
        x.ground(0, 1, 3);
        x.inn(0, 13, 13, 0);
        x.herd(0, 0, 3, 5, 0, 0);
        x.ground(0, 4, 1);
        for (int s = 0; s < 14; s++) {
            x.ground(s, 0, 3);
        }
        due("no rock: from 15 on", x.place(0, 0), 15);
        x.gone(0);
        due("gone", x.place(0, 0), -1);
        x = by("s9(1=1)");
        x.inn(0, 13, 13, 0);
        x.herd(0, 0, 3, 5, 0, 0);
        x.ground(0, 4, 1);
        due("nothing helps: the lowest", x.place(0, 0), 0);
        due("living", x.place(0, 1), 0);
    }

    private static void p27() {
        StarHerds x = planned();
        x.stray(9, 13, 13, 0, false);
        due("what", x.prices(0, 1, 9, 3), -3);
        due("what", x.prices(0, 1, 9, -1), -3);
        due("coins", x.prices(0, 1, -1, 0), -3);
        due("coins", x.prices(0, 1, 10000, 0), -3);
        due("one twice", x.prices(0, 0, 9, 0), -3);
        due("not there", x.prices(0, 2, 9, 0), -3);
        due("not there", x.prices(2, 0, 9, 0), -3);
        due("no inn", x.prices(0, 9, 9, 0), -3);
        due("no inn", x.prices(-1, 0, 9, 0), -3);
        // Inn 0 saves all and is taken at any price; inn 1 never.
        due("how many", x.prices(0, 1, 9, 0), 5);
        due("the first", x.prices(0, 1, 9, 1), 5);
        due("the first", x.prices(0, 1, 9, 2), 1);
        due("the other way round", x.prices(1, 0, 9, 1), 1);
        due("the other way round", x.prices(1, 0, 9, 2), 5);
        // With 3 coins inn 0 can be had for 3; inn 1 then never.
        due("by 3 coins", x.prices(0, 1, 3, 0), 5);
        due("by 3 coins", x.prices(0, 1, 3, 1), 3);
        // Two that do the same: the cheaper one is taken, the lower one of like prices; each would go below the other.
        x = by("a9(1=1);s9(1=1);b0(l=3);b9(1=1)");
        x.ground(0, 1, 1);
        x.herd(0, 0, 0, 30, 0, 0);
        x.inn(0, 3, 0, 0);
        x.inn(1, 3, 0, 0);
        due("like ones", x.prices(0, 1, 9, 0), 1);
        due("like ones", x.prices(0, 1, 9, 1), 1);
        due("like ones", x.prices(0, 1, 9, 2), 1);
        due("without coins no gain", x.prices(0, 1, 0, 0), 25);
        x.inn(3, 3, 0, 0);
        due("a third one for nothing", x.prices(0, 1, 9, 0), 25);
        x.dog(1, 1);
        due("lit", x.prices(0, 1, 9, 0), -3);
        due("lit", x.prices(1, 0, 9, 0), -3);
        // Both are needed: together not above 6 coins, else the cheaper one alone; at 5 and 1 the other one would ask 2.
        x = by("a9(1=1);s9(1=1);b9(1=1)");
        x.ground(0, 1, 1);
        x.ground(13, 1, 1);
        x.herd(0, 0, 0, 30, 0, 0);
        x.herd(1, 13, 0, 30, 0, 0);
        x.inn(0, 3, 0, 0);
        x.inn(1, 10, 0, 0);
        due("together 6", x.prices(0, 1, 6, 0), 1);
        due("together 6", x.prices(0, 1, 6, 1), 3);
        due("together 6", x.prices(0, 1, 6, 2), 3);
        x = planned();
        x.inn(2, 3, 0, 0);
        due("the third one costs 1", x.prices(0, 1, 9, 0), 5);
        due("the third one costs 1", x.prices(0, 1, 9, 1), 1);
        noneRests();
    }

    /** A plain on which for any two prices one of the two inns would ask another one. */
    private static void noneRests() {
        StarHerds x = by("a[l*2+h*11]%7+1(1=1);s99(1=1);b1(l=2);b1(l=3)");
        int[] bogs = {0, 2, 3, 6, 10, 3, 8, 2, 9, 2, 8, 5, 7, 5, 11, 1, 3, 5, 4, 7, 6, 1, 4, 4, 4, 6, 2, 3, 1, 2, 13, 0,
            12, 0, 1, 4, 8, 7, 7, 1, 10, 0, 9, 5, 1, 1, 3, 3, 13, 6, 0, 0, 9, 5, 13, 3, 1, 3, 4, 0};
        for (int k = 0; k < bogs.length; k += 2) {
            x.ground(bogs[k], bogs[k + 1], 1);
        }
        int[] inns = {12, 3, 2, 1, 0, 6, 11, 2};
        for (int k = 0; k < inns.length; k += 2) {
            x.inn(k / 2, inns[k], inns[k + 1], 0);
        }
        int[] herds = {3, 1, 2, 6, 2, 3, 13, 1, 3, 13, 2, 4, 1, 4, 4, 8, 1, 4};
        for (int k = 0; k < herds.length; k += 3) {
            x.herd(k / 3, herds[k], herds[k + 1], herds[k + 2], 0, 0);
        }
        due("none rests", x.prices(0, 1, 5, 0), 0);
        due("none rests", x.prices(0, 1, 5, 1), -2);
        due("none rests", x.prices(0, 1, 5, 2), -2);
    }

    private static void p28() {
        StarHerds x = by("a9(1=1)");
        x.herd(0, 0, 1, 20, 0, 0);
        x.herd(3, 9, 13, 20, 0, 0);
        x.inn(0, 5, 1, 0);
        x.inn(1, 0, 3, 0);
        feed(x, 15);
        due("n", x.whoLit(0, 0), -1);
        due("n", x.whoLit(9, 0), -1);
        due("what", x.whoLit(1, 3), -1);
        due("what", x.whoLit(1, -1), -1);
        due("the tape stays", x.count(4), 20);
        x.check(0);
        due("it has not so many", x.whoLit(1, 0), -1);
        int[] right = {15, 255};
        feed(x, right);
        due("inn 0, with inn 1 or not", x.whoLit(1, 0), 2);
        due("the tape is empty", x.count(4), 0);
        feed(x, right);
        due("the first", x.whoLit(1, 1), 1);
        feed(x, right);
        due("in all", x.whoLit(1, 2), 1);
        int[] down = {28, 255};
        feed(x, down);
        due("without inn 0", x.whoLit(1, 0), 2);
        feed(x, down);
        due("the first", x.whoLit(1, 1), 0);
        feed(x, down);
        due("in all", x.whoLit(1, 2), 0);
        int[] never = {29, 255};
        feed(x, never);
        due("never", x.whoLit(1, 0), 0);
        feed(x, never);
        due("never", x.whoLit(1, 1), -2);
        feed(x, never);
        due("never", x.whoLit(1, 2), -2);
        due("the tape is empty", x.count(4), 0);
        feed(x, 15, 196);
        due("255, not 196", x.whoLit(1, 0), 0);
        // A stray lamp that is lit is unknown, too; a lit inn is not.
        x.stray(11, 5, 0, 4, true);
        feed(x, down);
        due("neither, inn 1, or it and the stray one", x.whoLit(1, 0), 3);
        x.dog(1, 1);
        feed(x, down);
        due("inn 1 is lit anyway: neither, or the stray one", x.whoLit(1, 0), 2);
        feed(x, right);
        due("inn 0, or it and the stray one", x.whoLit(1, 0), 2);
        x.gone(1);
        // The first five inns that are there and not lit.
        x.gone(0);
        x.gone(11);
        for (int i = 2; i < 9; i++) {
            x.inn(i, 13, 0, 0);
        }
        x.dog(2, 1);
        x.inn(8, 5, 1, 0);
        feed(x, right);
        due("inn 8 is the sixth", x.whoLit(1, 0), 0);
        x.gone(5);
        feed(x, right);
        due("inn 8 is the fifth", x.whoLit(1, 0), 16);
        feed(x, right);
        due("the first", x.whoLit(1, 1), 256);
        feed(x, right);
        due("in all", x.whoLit(1, 2), 256);
        StarHerds y = by("a9(1=1)");
        y.herd(0, 0, 1, 20, 0, 0);
        y.inn(0, 5, 1, 0);
        y.stray(9, 4, 1, 0, false);
        feed(y, 15);
        due("either or both", y.whoLit(1, 0), 3);
        feed(y, 15);
        due("the first", y.whoLit(1, 1), 1);
        feed(y, 15);
        due("none in all", y.whoLit(1, 2), 0);
        y.gone(0);
        y.stray(9, 4, 1, 0, true);
        feed(y, 15);
        due("the stray one", y.whoLit(1, 0), 1);
        law(y, "a9(1=1);s9(1=1)");
        y.ground(0, 2, 1);
        due("behind it the stray one is lit as before", y.plan(0, 2), 20);
        x.hours(1);
        feed(x, new int[20]);
        due("beyond the night", x.whoLit(8, 0), -1);
        due("not beyond the night", x.whoLit(7, 0), 0);
        x.herd(0, 0, 0, 0, 0, 0);
        x.herd(3, 0, 0, 0, 0, 0);
        feed(x, new int[20]);
        due("no herd is on", x.whoLit(1, 0), -1);
        due("the tape stays", x.count(4), 20);
    }

    private static void p29() {
        StarHerds x = by("s9(1=1)");
        x.herd(0, 3, 3, 5, 0, 0);
        x.herd(1, 3, 3, 0, 0, 0);
        x.ground(0, 1, 3);
        due("not told", x.where(2, 1, 14, 0), -1);
        due("not on", x.where(1, 1, 14, 0), -1);
        due("no herd", x.where(6, 1, 14, 0), -1);
        due("n", x.where(0, 0, 14, 0), -1);
        due("n", x.where(0, 9, 14, 0), -1);
        due("square", x.where(0, 1, -1, 0), -1);
        due("square", x.where(0, 1, 196, 0), -1);
        due("what", x.where(0, 1, 14, 2), -1);
        due("what", x.where(0, 1, 14, -1), -1);
        due("before the rock", x.where(0, 1, 0, 0), 1);
        due("it stood there", x.where(0, 8, 0, 1), 0);
        due("the last square", x.where(0, 1, 195, 1), 181);
        due("behind a rock", x.where(0, 1, 28, 0), 0);
        due("behind a rock", x.where(0, 1, 28, 1), -2);
        due("two up", x.where(0, 2, 59, 1), 31);
        due("two up", x.where(0, 2, 59, 0), 1);
        x.ground(3, 4, 3);
        due("before a rock: from there on", x.where(0, 2, 45, 0), 3);
        due("the first", x.where(0, 2, 45, 1), 17);
        x.ground(3, 8, 1);
        due("none is left on a bog", x.where(0, 1, 14 * 8 + 3, 0), 0);
        due("nothing is changed", x.herdIs(0, 0), 45);
        x.hours(1);
        due("beyond the night", x.where(0, 8, 0, 0), -1);
        due("not beyond the night", x.where(0, 7, 0, 0), 1);
    }

    private static void p30() {
        StarHerds x = by("sr(1=1)");
        due("n", x.odds(0, 0, 0), -1);
        due("n", x.odds(4, 0, 0), -1);
        due("living", x.odds(1, -1, 0), -1);
        due("living", x.odds(1, 10000, 0), -1);
        due("what", x.odds(1, 0, 2), -1);
        due("what", x.odds(1, 0, -1), -1);
        x.ground(0, 1, 1);
        x.ground(0, 2, 1);
        x.ground(0, 3, 1);
        x.herd(0, 0, 0, 50, 0, 0);
        due("draws 0 to 4", x.odds(1, 46, 0), 1);
        due("draws 0 to 4", x.odds(1, 46, 1), 2);
        due("draws 0 to 2", x.odds(1, 48, 0), 3);
        due("draws 0 to 2", x.odds(1, 48, 1), 10);
        due("always", x.odds(1, 41, 0), 1);
        due("always", x.odds(1, 41, 1), 1);
        due("always", x.odds(1, 0, 0), 1);
        due("the bounds", x.odds(1, 9999, 1), 1);
        due("never", x.odds(1, 51, 0), 0);
        due("never", x.odds(1, 51, 1), 1);
        due("two draws, together 2 at most", x.odds(2, 48, 0), 3);
        due("two draws, together 2 at most", x.odds(2, 48, 1), 50);
        due("three draws, together 2 at most", x.odds(3, 48, 0), 1);
        due("three draws, together 2 at most", x.odds(3, 48, 1), 100);
        due("nothing is changed", x.count(5) + x.count(1) + x.led(18), 1);
    }

    private static void p31() {
        StarHerds x = new StarHerds();
        no("seeds", x.seed(-1) || x.seed(65536));
        due("X", x.count(5), 1);
        yes("seeds", x.seed(0));
        x.hours(1);
        due("X", x.count(5), 13849);
        yes("seeds", x.seed(65535));
        due("X", x.count(5), 65535);
        x.hours(1);
        due("X", x.count(5), (25173L * 65535 + 13849) % 65536);
    }

    private static void p32() {
        // The draws from 1 on are 2 7 6 5 2 9 6 7.
        StarHerds x = by("q6(1=1)");
        x.clouds(255);
        due("clouds", x.clouded(), 1 + 8 + 16);
        due("clouds", x.count(2), 1 + 8 + 16);
        due("X", x.count(5), 19417);
        x = by("q10(u>3);qv*10(1=1)");
        due("asked for that hour", x.clouded(), 240);
        x.hours(6);
        x.clouds(5);
        due("from this hour on", x.clouded(), 5 + 192);
        x.hours(2);
        due("the night", x.clouded(), 255);
        x = new StarHerds();
        x.clouds(255);
        due("no law: no clouds", x.clouded(), 0);
    }

    private static void p33() {
        StarHerds x = new StarHerds();
        due("living", x.keep(), 0);
        x.herd(0, 0, 13, 20, 0, 0);
        x.herd(1, 0, 0, 7, 0, 0);
        x.hour(0);
        due("living, through too", x.keep(), 27);
        x.herd(2, 0, 0, 1, 0, 0);
        due("as they were kept last", x.keep(), 28);
        x.undo();
        due("as they were kept last", x.count(9), 28);
    }

    private static void p34() {
        no("none was kept", new StarHerds().undo());
        int[] before = all(keptOne());
        for (int times = 1; times <= 2; times++) {
            StarHerds x = keptOne();
            for (int k = 0; k < times; k++) {
                changeAll(x);
                yes("undone", x.undo());
            }
            due("the law stays", x.count(3), 1);
            due("the law stays", x.price(0), 2);
            due("the tape stays", x.count(4), 40);
            int[] now = all(x);
            for (int j = 0; j < now.length; j++) {
                due("number " + j, now[j], before[j]);
            }
        }
    }

    private static StarHerds keptOne() {
        StarHerds x = by("b1(1=1);a9(1=1);s3(1=1)");
        x.ground(4, 4, 2);
        x.ground(0, 1, 1);
        x.inn(0, 1, 1, 1);
        x.stray(9, 2, 2, 2, true);
        x.stray(10, 2, 2, 2, true);
        x.herd(0, 0, 0, 20, 3, 4);
        x.fire(0, true);
        x.drover(0, 50);
        x.pay(0, 0, 2);
        x.dog(0, 4);
        x.hours(1);
        x.clouds(9);
        x.feed(0, 0, 0, 0, 0);
        x.ground(0, 2, 1);
        x.herd(5, 0, 1, 9, 0, 0);
        x.hours(1);
        x.ground(12, 12, 1);
        x.herd(5, 12, 11, 9, 0, 0);
        x.hours(1);
        x.ground(12, 12, 0);
        due("led", x.led(18), 3);
        x.keep();
        return x;
    }

    /** Changes something of each kind that is kept, and the law and the tape, which are not. */
    private static void changeAll(StarHerds x) {
        x.ground(4, 4, 3);
        x.ground(5, 5, 1);
        x.inn(0, 9, 9, 0);
        x.inn(5, 9, 9, 0);
        x.stray(9, 3, 3, 0, false);
        x.gone(10);
        x.fire(0, false);
        x.ground(0, 2, 1);
        x.ground(12, 12, 1);
        x.herd(5, 12, 11, 9, 0, 0);
        x.hours(10);
        x.herd(0, 7, 7, 7, 7, 7);
        x.herd(1, 7, 7, 7, 7, 7);
        x.drover(0, 1);
        x.clouds(7);
        x.seed(5);
        law(x, "b2(1=1)");
        x.feed(0, 0, 0, 0, 0);
        x.feed(0, 0, 0, 0, 0);
    }

    /** All that is kept. */
    private static int[] all(StarHerds x) {
        int[] told = new int[400];
        int n = 0;
        for (int what : new int[] {0, 1, 2, 5, 6, 7, 8, 9, 10, 11, 12, 13}) {
            told[n++] = x.count(what);
        }
        for (int s = 0; s < 196; s++) {
            told[n++] = x.count(100 + s);
        }
        for (int l = 0; l < 19; l++) {
            told[n++] = x.led(l);
            for (int what = 0; what < 4; what++) {
                told[n++] = x.lampIs(l, what);
            }
        }
        for (int h = 0; h < 6; h++) {
            for (int what = 0; what < 6; what++) {
                told[n++] = x.herdIs(h, what);
            }
        }
        return told;
    }

    private static void p35() {
        StarHerds x = new StarHerds();
        x.herd(0, 0, 13, 300, 0, 0);
        x.herd(2, 0, 0, 7, 0, 0);
        x.hour(0);
        due("n", x.check(-1), -2);
        due("n", x.check(7), -2);
        due("it has not so many", x.check(1), -2);
        x.feed(300, 0, 7, 0, 0);
        due("it has not so many", x.check(6), -2);
        due("the tape stays", x.count(4), 20);
        due("right", x.check(5), -1);
        due("the tape is empty", x.count(4), 0);
        x.feed(300, 0, 7, 0, 0);
        x.feed(0, 0, 0, 0, 0);
        due("all six", x.check(6), -1);
        x.feed(300, 1, 7, 0, 0);
        due("not told: 0", x.check(3), 1);
        x.feed(300, 0, 8, 1, 0);
        due("the first", x.check(5), 2);
        due("the tape is empty", x.count(4), 0);
        x.feed(300, 0, 8, 1, 0);
        due("two are right", x.check(2), -1);
        x.feed(-300, 0, 8, 1, 0);
        due("below 0", x.check(1), 0);
        x.herd(1, 0, 0, 0, 0, 0);
        x.feed(300, 1 << 31, 0, 0, 0);
        due("all four bytes", x.check(2), 1);
        x.feed(1, 0, 0, 0, 0);
        due("none is asked", x.check(0), -1);
        due("the tape is empty", x.count(4), 0);
    }

    private static void p36() {
        StarHerds x = by("a1(1=1);b1(1=1)");
        x.inn(0, 0, 0, 0);
        x.dog(0, 5);
        x.inn(1, 0, 0, 0);
        x.dog(1, 5);
        x.stray(10, 0, 0, 0, true);
        x.stray(11, 0, 0, 0, false);
        x.herd(0, 0, 13, 30, 0, 0);
        x.herd(3, 9, 0, 12, 0, 0);
        x.herd(5, 9, 0, 0, 0, 0);
        x.fire(3, true);
        x.fire(0, true);
        x.fire(5, true);
        x.drover(2, 77);
        x.gone(10);
        x.hours(9);
        x.stray(10, 0, 0, 0, true);
        x.feed(0, 0, 0, 0, 0);
        x.clouds(4);
        x.ground(13, 13, 1);
        x.ground(0, 0, 2);
        due("THE NIGHT", x.count(0), 1);
        due("HOUR", x.count(1), 1);
        due("clouds", x.count(2), 4);
        due("clauses", x.count(3), 2);
        due("bytes", x.count(4), 20);
        x.seed(123);
        due("X", x.count(5), 123);
        due("told", x.count(6), 41);
        due("on", x.count(7), 8);
        due("lit", x.count(8), 1 + 2 + 1024 + (1 << 15));
        due("living", x.count(9), 42);
        due("coins", x.count(10), 0);
        due("coins", x.count(12), 77);
        due("others", x.count(14), -1);
        due("others", x.count(99), -1);
        due("sorts", x.count(100), 2);
        due("sorts", x.count(295), 1);
        due("others", x.count(296), -1);
        due("others", x.count(-1), -1);
    }
}
