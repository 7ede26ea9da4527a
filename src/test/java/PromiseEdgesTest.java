import java.util.function.Consumer;

/** What each promise takes and refuses: just inside, just beyond, and what stays behind a refused call. */
public final class PromiseEdgesTest extends Edges {
    private static final Consumer<StarHerds> NO_TAPE = x -> x.check(0);

    public static void main(String[] args) throws Exception {
        open();
        edge("`StarHerds()`: An open plain, no LAMPS, HERDS, LAW; THE SEED 1.", PromiseEdgesTest::made);
        edge("SORT of a SQUARE: true; false: no such ones, a rock where a LAMP or a HERD that is ON is.",
            PromiseEdgesTest::ground);
        edge("An INN (in place of the one before; not PAID, no DOG): true; false: no such ones, a rock.",
            PromiseEdgesTest::inn);
        edge("A STRAY LAMP (9 to 11; in place of the one before): true; false: no such ones, a rock.",
            PromiseEdgesTest::stray);
        edge("An INN or STRAY LAMP is there no more: true; false: no such one.", PromiseEdgesTest::gone);
        edge("A DOG keeps an INN that is there for NIGHTS: true; false: no such ones.", PromiseEdgesTest::dog);
        edge("A HERD (in place of the one before; not THROUGH, no FIRE): true; false: no such ones, a rock.",
            PromiseEdgesTest::herd);
        edge("Horns of a told HERD on FIRE, or not: true; false: no such one, it is so.", PromiseEdgesTest::fire);
        edge("COINS of a DROVER: true; false: no such ones.", PromiseEdgesTest::drover);
        edge("Twenty bytes come behind the tape, the highest of each int first: how many it has; NONE if that would be "
            + "more than 260.", PromiseEdgesTest::feeds);
        edge("THE LAW by the first n bytes of the tape (1 to 240; empty then), in place of the one before: how many "
            + "CLAUSES;", PromiseEdgesTest::lawTaken);
        edge("a FAULT: -1000 times its number, less its place (the TEXT before stays)", PromiseEdgesTest::lawFault);
        edge("NONE: no such n, it has not so many (the tape stays).", PromiseEdgesTest::lawNone);
        edge("What the beer of an INN that is there costs now; NONE: no such one.", PromiseEdgesTest::price);
        edge("A DROVER PAYS an INN that is there for NIGHTS (1 to 9): COINS it gives; -2: it has not so many; -3: it "
            + "would be PAID for more than 99; NONE: no such ones.", PromiseEdgesTest::pay);
        edge("CLOUDS of THE NIGHT (bits, 0 to 255): true; false: no such ones.", PromiseEdgesTest::clouds);
        edge("Whether a LAMP (0 to 17) is LIT (1, 0); NONE: it is not there (horns: the HERD is not told).",
            PromiseEdgesTest::lit);
        edge("How much a LAMP that is there (LIT or not, however far; horns: of a HERD that is ON) pulls a HERD that is "
            + "ON, now; NONE: no such ones, its own horns.", PromiseEdgesTest::pull);
        edge("The TARGET of a HERD that is ON, now; -2: none; NONE: no such one.", PromiseEdgesTest::target);
        edge("HOURS (1 to 24) by DRAWS: how many are lost; NONE: no such n.", PromiseEdgesTest::hours);
        edge("AN HOUR with a told DRAW (X stays): how many are lost; NONE: no such DRAW.", PromiseEdgesTest::hour);
        edge("TRIED, what 0 how many are lost in them, 1 LIVING, 2 CATTLE that are THROUGH, 10 + h CATTLE, 20 + h the "
            + "SQUARE (196: THROUGH), 30 + h THIRST, 40 + h FEAR of told HERD h; NONE: no such ones.",
            PromiseEdgesTest::tried);
        edge("Of a told HERD, what 0 its SQUARE (196: THROUGH), 1 CATTLE, 2 THIRST, 3 FEAR, 4 FIRE (1, 0), 5 whether it "
            + "is ON (1, 0); NONE for others.", PromiseEdgesTest::herdIs);
        edge("Of an INN or STRAY LAMP that is there, what 0 its SQUARE, 1 KIND, 2 PAID NIGHTS, 3 the DOG's (a STRAY one: "
            + "0, 0); NONE for others.", PromiseEdgesTest::lampIs);
        edge("How many are LED to a LAMP (0 to 17; 18: to nobody); NONE: no such one.", PromiseEdgesTest::led);
        edge("THE PLAN by COINS (0 to 9999), what 0 INNS (bits), 1 COINS, 2 LIVING then; NONE: no such ones.",
            PromiseEdgesTest::plan);
        edge("SAFE, what 0 INNS (bits), 1 COINS; -2: some are lost anyway; NONE: no such what.", PromiseEdgesTest::safe);
        edge("A PLACE for an INN, what 0 the SQUARE, 1 LIVING then; NONE: no such ones.", PromiseEdgesTest::place);
        edge("PRICES of two INNS by COINS (0 to 9999), what 0 how many REST, 1, 2 the first ones; -2: none (of 1, 2); "
            + "-3: no such ones, one twice, LIT.", PromiseEdgesTest::prices);
        edge("WHO LIT by the first bytes of the tape (as many as HERDS are ON; empty then), behind n HOURS, what 0 how "
            + "many sets, 1 the first one, 2 LAMPS in all (bits); -2: none (of 1, 2); NONE: no such ones, no HERD is "
            + "ON, it has not so many (the tape stays).", PromiseEdgesTest::whoLit);
        edge("WHERE a HERD was that is on a SQUARE behind n HOURS (1 to 8, not beyond THE NIGHT), what 0 how many "
            + "SQUARES, 1 the first; -2: none (of 1); NONE: no such ones, not ON.", PromiseEdgesTest::where);
        edge("ODDS that at least so many (0 to 9999) are LIVING, what 0 above, 1 below the line, without a common "
            + "divisor; NONE: no such ones.", PromiseEdgesTest::odds);
        edge("THE SEED (0 to 65535; X, too): true; false: no such number.", PromiseEdgesTest::seed);
        edge("CLOUDED: CLOUDS of THE NIGHT then.", PromiseEdgesTest::clouded);
        edge("KEPT: LIVING.", PromiseEdgesTest::keep);
        edge("UNDONE: true; false: none was KEPT.", PromiseEdgesTest::undo);
        edge("CHECK by the first n numbers of the tape (0 to 6; four bytes each; empty then; of HERDS that are not told "
            + "0): NONE: right; else the place of the first number that is not so; -2: no such n, it has not so many "
            + "(the tape stays).", PromiseEdgesTest::check);
        edge("0 THE NIGHT, 1 the HOUR, 2 CLOUDS, 3 CLAUSES, 4 bytes of the tape, 5 X, 6 told HERDS, 7 those that are ON, "
            + "8 LAMPS that are LIT (each as bits), 9 LIVING; 10 + d COINS of DROVER d; 100 + s the SORT of SQUARE s. "
            + "NONE for others.", PromiseEdgesTest::count);
        end("PromiseEdgesTest");
    }

    private static void made() {
        int[] all = all(new StarHerds());
        int n = 0;
        for (int what = 0; what < 14; what++) {
            due("count " + what, all[n++], what == 5 ? 1 : 0);
        }
        for (int s = 0; s < 196; s++) {
            due("sort of " + s, all[n++], 0);
        }
        for (int l = 0; l < 18; l++) {
            due("lit", all[n++], -1);
            due("led", all[n++], 0);
        }
        due("led to nobody", all[n++], 0);
        for (int k = 0; k < 48 + 42 + 9; k++) {
            due("no lamps, no herds, no price", all[n++], -1);
        }
        due("none is lost", all[n++], 0);
        due("an empty tape", all[n], -1);
        no("none was kept", new StarHerds().undo());
        StarHerds x = new StarHerds();
        rich();
        due("nothing of another object", x.count(9) + x.count(0) + x.count(4), 0);
    }

    private static void ground() {
        stays("a rock where an inn is", x -> bit(x.ground(2, 3, 3)), 0);
        stays("a rock where inn 8 is", x -> bit(x.ground(10, 4, 3)), 0);
        stays("a rock where an inn that is not lit is", x -> bit(x.ground(5, 4, 3)), 0);
        stays("a rock where a stray lamp is", x -> bit(x.ground(6, 3, 3)), 0);
        stays("a rock where herd 0 is", x -> x.herd(0, 1, 7, 5, 5, 5), x -> bit(x.ground(1, 7, 3)), 0);
        stays("a rock where herd 5 is", x -> x.herd(5, 1, 7, 1, 5, 5), x -> bit(x.ground(1, 7, 3)), 0);
        StarHerds x = new StarHerds();
        for (int l = 0; l < 12; l++) {
            yes("a lamp", l < 9 ? x.inn(l, l, 3, 0) : x.stray(l, l, 3, 0, false));
            no("a rock where it is", x.ground(l, 3, 3));
            yes("a rock beside it", x.ground(l, 4, 3));
            yes("a bog where it is", x.ground(l, 3, 1));
            yes("gone", x.gone(l));
            yes("a rock where it was", x.ground(l, 3, 3));
        }
        for (int h = 0; h < 6; h++) {
            x.herd(h, 2 * h, 8, 1, 0, 0);
            no("a rock where a herd is", x.ground(2 * h, 8, 3));
            yes("a well where a herd is", x.ground(2 * h, 8, 2));
            x.herd(h, 2 * h, 8, 0, 0, 0);
            yes("a rock where a herd without cattle is", x.ground(2 * h, 8, 3));
        }
        x.herd(0, 0, 13, 1, 0, 0);
        no("a rock in the last row", x.ground(0, 13, 3));
        x.hour(0);
        yes("a rock where a herd went through", x.ground(0, 13, 3));
        yes("a rock where a rock is", x.ground(0, 13, 3));
    }

    private static void inn() {
        beyond("no such inn", v -> x -> bit(x.inn(v, 0, 0, 0)), 0, -1, 9, 10, 11, 12);
        StarHerds x = rich();
        due("paid, with a dog", bit(x.lampIs(8, 2) > 0 && x.lampIs(1, 3) > 0), 1);
        yes("in place of one that is paid", x.inn(8, 0, 1, 0));
        due("square", x.lampIs(8, 0), 14);
        due("kind", x.lampIs(8, 1), 0);
        due("not paid", x.lampIs(8, 2), 0);
        due("not lit", x.lit(8), 0);
        yes("in place of one with a dog", x.inn(1, 0, 1, 0));
        due("no dog", x.lampIs(1, 3), 0);
        due("not lit", x.lit(1), 0);
        yes("in its own place", x.inn(0, 2, 3, 1));
        due("not paid", x.lampIs(0, 2), 0);
        due("no dog", x.lampIs(0, 3), 0);
        x.gone(0);
        yes("after it was gone", x.inn(0, 2, 3, 1));
        due("not paid", x.lampIs(0, 2), 0);
    }

    private static void stray() {
        beyond("no such lamp", v -> x -> bit(x.stray(v, 0, 0, 0, true)), 0, -1, 0, 8, 12, 18);
        StarHerds x = rich();
        yes("in place of one that is lit", x.stray(9, 0, 1, 0, false));
        due("square", x.lampIs(9, 0), 14);
        due("kind", x.lampIs(9, 1), 0);
        due("not lit", x.lit(9), 0);
        yes("in place of one that is not", x.stray(9, 13, 13, 4, true));
        due("square", x.lampIs(9, 0), 195);
        due("kind", x.lampIs(9, 1), 4);
        due("lit", x.lit(9), 1);
        due("others stay", x.lampIs(10, 0), 14 * 11 + 12);
    }

    private static void gone() {
        beyond("not there", v -> x -> bit(x.gone(v)), 0, 3, 5, 6, 7, 11);
        beyond("no such lamp", v -> x -> bit(x.gone(v)), 0, -1, 12, 17, 18, LOWEST, HIGHEST);
        for (int l : new int[] {0, 1, 2, 4, 8, 9, 10}) {
            StarHerds x = rich();
            int others = x.count(8) & ~(1 << l);
            yes("gone", x.gone(l));
            due("not there", x.lit(l), -1);
            due("others stay", x.count(8), others);
            no("twice", x.gone(l));
        }
    }

    private static void dog() {
        beyond("not there", v -> x -> bit(x.dog(v, 1)), 0, 3, 5, 6, 7);
        beyond("no inn", v -> x -> bit(x.dog(v, 1)), 0, -1, 9, 10, 12, LOWEST, HIGHEST);
        beyond("nights", v -> x -> bit(x.dog(0, v)), 0, -1, 100, LOWEST, HIGHEST);
        StarHerds x = rich();
        yes("inn 0 and inn 8", x.dog(0, 99) && x.dog(8, 0));
        due("nights", x.lampIs(0, 3), 99);
        due("nights", x.lampIs(8, 3), 0);
        due("paid as before", x.lampIs(8, 2), 2);
        yes("as it is", x.dog(0, 99));
    }

    private static void herd() {
        beyond("no such herd", v -> x -> bit(x.herd(v, 0, 0, 1, 1, 1)), 0, -1, 6, LOWEST, HIGHEST);
        stays("a rock", x -> bit(x.herd(0, 7, 7, 1, 1, 1)), 0);
        stays("a rock, a new herd", x -> bit(x.herd(4, 8, 2, 1, 1, 1)), 0);
        stays("a rock, without cattle", x -> bit(x.herd(4, 8, 2, 0, 0, 0)), 0);
        StarHerds x = rich();
        due("through", x.herdIs(2, 0), 196);
        yes("in place of one that is through", x.herd(2, 13, 13, 1, 2, 3));
        due("not through", x.herdIs(2, 0), 195);
        due("on", x.herdIs(2, 5), 1);
        due("on fire", x.herdIs(5, 4), 1);
        yes("in place of one on fire", x.herd(5, 0, 0, 1, 2, 3));
        due("no fire", x.herdIs(5, 4), 0);
        yes("without cattle", x.herd(5, 0, 0, 0, 2, 3));
        due("told", x.herdIs(5, 1), 0);
        due("not on", x.herdIs(5, 5), 0);
    }

    private static void fire() {
        beyond("no such herd", v -> x -> bit(x.fire(v, true)), 0, -1, 4, 6, LOWEST, HIGHEST);
        beyond("no such herd", v -> x -> bit(x.fire(v, false)), 0, -1, 4, 6, LOWEST, HIGHEST);
        stays("it is on fire", x -> bit(x.fire(5, true)), 0);
        stays("it is not", x -> bit(x.fire(0, false)), 0);
        stays("without cattle, on fire", x -> bit(x.fire(3, true)), 0);
        stays("through, not on fire", x -> bit(x.fire(2, false)), 0);
        StarHerds x = rich();
        yes("without cattle", x.fire(3, false));
        due("out", x.herdIs(3, 4), 0);
        yes("through", x.fire(2, true));
        due("on fire", x.herdIs(2, 4), 1);
        due("not lit", x.lit(14), 0);
        yes("herd 0 and herd 5", x.fire(0, true) && x.fire(5, false));
        due("lit", x.count(8) >> 12, 1);
    }

    private static void drover() {
        beyond("no such drover", v -> x -> bit(x.drover(v, 1)), 0, -1, 4, LOWEST, HIGHEST);
        beyond("coins", v -> x -> bit(x.drover(0, v)), 0, -1, 10000, LOWEST, HIGHEST);
        StarHerds x = rich();
        yes("0", x.drover(3, 0));
        due("0", x.count(13), 0);
        yes("9999", x.drover(3, 9999));
        due("9999", x.count(13), 9999);
        due("others stay", x.count(11), 51);
    }

    private static void feeds() {
        StarHerds x = new StarHerds();
        for (int k = 1; k <= 13; k++) {
            due("feed " + k, x.feed(k, 0, 0, 0, 0), 20 * k);
        }
        due("280", x.feed(9, 9, 9, 9, 9), -1);
        due("260 stay", x.count(4), 260);
        x.herd(0, 0, 0, 1, 0, 0);
        due("the first twenty are first", x.check(1), -1);
        due("empty", x.count(4), 0);
        due("twenty again", x.feed(1, 0, 0, 0, 0), 20);
        stays("more than 260", y -> feed(y, new int[240]), y -> y.feed(1, 2, 3, 4, 5), -1);
        stays("more than 260, again", y -> feed(y, new int[260]), y -> y.feed(1, 2, 3, 4, 5), -1);
        x = by("b1(1=1)");
        x.inn(0, 0, 0, 0);
        x.feed('b' << 24 | '7' << 16 | '(' << 8 | '1', '=' << 24 | '1' << 16 | ')' << 8 | ';', 'b' << 24, 0, 0);
        due("the highest byte first", x.law(7), 1);
        due("the highest byte first", x.price(0), 7);
        x.feed(0x80ff00fe, 0, 0, 0, 0);
        x.feed(0, 0, 0, 0, 0);
        x.herd(1, 0, 0, 255, 0, 0);
        x.herd(0, 0, 0, 255, 0, 0);
        due("bytes above 127", x.check(1), 0);
        x.feed(255, 255, 0, 0, 0);
        due("bytes above 127", x.check(2), -1);
    }

    private static void lawTaken() {
        StarHerds x = by("b1(1=1);a9(1=1)");
        x.inn(0, 0, 0, 0);
        x.herd(0, 0, 0, 9, 0, 0);
        feed(x, "b2(1=1);b3(1=1);b4(1=1)".chars().toArray());
        due("bytes", x.count(4), 40);
        due("the first seven", x.law(7), 1);
        due("clauses", x.count(3), 1);
        due("the tape is empty", x.count(4), 0);
        due("in place of the one before", x.price(0), 2);
        due("nothing is left of it", x.pull(0, 0), 0);
        feed(x, "b5(1=2);b6(1=1);b7(1=1)".chars().toArray());
        due("23 of 40 bytes", x.law(23), 3);
        due("clauses", x.count(3), 3);
        due("the second", x.price(0), 6);
        alike("a law changes the law alone", y -> y.check(0), y -> law(y, "a30-d+k(1=1)"), 1,
            y -> law(y, "a30-d+k(1=1)"));
    }

    private static void lawFault() {
        StarHerds x = by("b1(1=1);a9(1=1)");
        x.inn(0, 0, 0, 0);
        for (String text : new String[] {"", "b", "b2", "b2(", "b2(1", "b2(1=", "b2(1=1", "b2(1=1);", "b2(1=1);a"}) {
            String ended = text + " ";
            due("text " + text, law(x, ended), -1000 - text.length());
            due("the tape is empty", x.count(4), 0);
            due("the text before stays", x.price(0), 1);
            due("the text before stays", x.count(3), 2);
        }
        due("a fault 2", law(x, "b000002(1=1)"), -2006);
        due("a fault 5", law(x, "b[[[[[[[2]]]]]]](1=1)"), -5007);
        due("a fault 4", law(x, "b2(1=1);".repeat(16) + "b2(1=1)"), -4128);
        due("the text before stays", x.price(0), 1);
        due("the text before stays", x.count(3), 2);
        Consumer<StarHerds> wrong = y -> {
            y.check(0);
            feed(y, "b2(1=1);;".chars().toArray());
        };
        empties("a fault behind a clause", wrong, y -> y.law(9), -1008);
        empties("a fault behind no clause", wrong, y -> y.law(3), -1003);
    }

    private static void lawNone() {
        Consumer<StarHerds> full = y -> feed(y, new int[240]);
        for (int n : new int[] {0, -1, 241, 260, LOWEST, HIGHEST}) {
            stays("n " + n, full, y -> y.law(n), -1);
        }
        stays("21 of 20", y -> y.law(21), -1);
        stays("240 of 20", y -> y.law(240), -1);
        stays("1 of none", NO_TAPE, y -> y.law(1), -1);
        empties("240 of 260", full, y -> y.law(240), -1000);
        empties("20 of 20", y -> { }, y -> y.law(20), -1000);
        empties("1 of 20", y -> { }, y -> y.law(1), -1000);
    }

    private static void price() {
        beyond("not there", v -> x -> x.price(v), -1, 3, 5, 6, 7);
        beyond("no inn", v -> x -> x.price(v), -1, -1, 9, 10, 11, 12, LOWEST, HIGHEST);
        for (int i : new int[] {0, 1, 2, 4, 8}) {
            due("4 + l + p of inn " + i, rich().price(i), 4 + i + rich().lampIs(i, 2));
        }
        asks("price", x -> x.price(8));
        StarHerds x = by("bu+v(1=1)");
        x.inn(0, 0, 0, 0);
        x.hours(7);
        due("now", x.price(0), 7);
        x.hours(1);
        due("now", x.price(0), 1);
    }

    private static void pay() {
        beyond("no such drover", v -> x -> x.pay(v, 0, 1), -1, -1, 4, LOWEST, HIGHEST);
        beyond("no such inn", v -> x -> x.pay(3, v, 1), -1, -1, 3, 5, 9, 12, LOWEST, HIGHEST);
        beyond("nights", v -> x -> x.pay(3, 8, v), -1, 0, -1, 10, LOWEST, HIGHEST);
        // Inn 2 costs 6 for a night.
        stays("5 of 6", x -> x.drover(0, 5), x -> x.pay(0, 2, 1), -2);
        stays("53 of 54", x -> x.drover(0, 53), x -> x.pay(0, 2, 9), -2);
        stays("none of 6", x -> x.pay(2, 2, 1), -2);
        alike("6 of 6", x -> x.drover(0, 6), x -> x.pay(0, 2, 1), 6, x -> {
            x.drover(2, 999);
            x.pay(2, 2, 1);
            x.drover(0, 0);
            x.drover(2, 0);
        });
        StarHerds x = rich();
        x.drover(0, 54);
        due("54 of 54", x.pay(0, 2, 9), 54);
        due("none is left", x.count(10), 0);
        due("paid", x.lampIs(2, 2), 9);
        due("lit", x.lit(2), 1);
        due("others stay", x.lampIs(1, 2), 0);
        law(x, "b0(1=1)");
        due("without coins for nothing", x.pay(0, 2, 9), 0);
        for (int k = 0; k < 9; k++) {
            due("nine nights", x.pay(0, 2, 9), 0);
        }
        due("99", x.lampIs(2, 2), 99);
        due("100", x.pay(0, 2, 1), -3);
        x.hours(8);
        due("98 and 2", x.pay(0, 2, 2), -3);
        due("98 and 1", x.pay(0, 2, 1), 0);
        x.inn(2, 0, 0, 0);
        for (int k = 0; k < 10; k++) {
            x.pay(0, 2, 9);
        }
        x.pay(0, 2, 1);
        due("91 and 9", x.pay(0, 2, 9), -3);
        due("91 and 8", x.pay(0, 2, 8), 0);
    }

    private static void clouds() {
        beyond("no such bits", v -> x -> bit(x.clouds(v)), 0, -1, 256, 511, LOWEST, HIGHEST);
        for (int bits : new int[] {0, 1, 128, 255}) {
            StarHerds x = rich();
            yes("bits", x.clouds(bits));
            due("bits", x.count(2), bits);
        }
        alike("clouds change clouds alone", x -> { }, x -> bit(x.clouds(0xaa)), 1, x -> { });
    }

    private static void lit() {
        beyond("no lamp", v -> x -> x.lit(v), -1, -1, 18, 19, LOWEST, HIGHEST);
        beyond("not there", v -> x -> x.lit(v), -1, 3, 5, 6, 7, 11);
        beyond("not told", v -> x -> x.lit(v), -1, 16);
        StarHerds x = rich();
        int[] due = {1, 1, 0, -1, 0, -1, -1, -1, 1, 1, 1, -1, 0, 0, 0, 0, -1, 1};
        for (int l = 0; l < 18; l++) {
            due("lamp " + l, x.lit(l), due[l]);
        }
        asks("lit", y -> y.lit(17));
    }

    private static void pull() {
        beyond("no such herd", v -> x -> x.pull(v, 0), -1, -1, 6, LOWEST, HIGHEST);
        beyond("not told, through, without cattle", v -> x -> x.pull(v, 0), -1, 2, 3, 4);
        beyond("no such lamp", v -> x -> x.pull(0, v), -1, -1, 18, LOWEST, HIGHEST);
        beyond("not there", v -> x -> x.pull(0, v), -1, 3, 5, 6, 7, 11);
        beyond("its own horns, of one through, without cattle, not told", v -> x -> x.pull(0, v), -1, 12, 14, 15, 16);
        beyond("its own horns", v -> x -> x.pull(5, v), -1, 17);
        asks("an inn that is lit", x -> x.pull(0, 0));
        asks("an inn that is not", x -> x.pull(0, 2));
        asks("horns", x -> x.pull(0, 17));
        StarHerds x = by("a999-d(1=1)");
        x.herd(0, 0, 0, 9, 0, 0);
        x.herd(1, 13, 13, 9, 0, 0);
        x.inn(0, 13, 13, 0);
        x.clouds(255);
        due("however far, by clouds, not lit", x.pull(0, 0), 973);
        due("horns however far, without fire", x.pull(0, 13), 973);
        due("of the other herd", x.pull(1, 12), 973);
        x.hours(24);
        due("through", x.pull(0, 0), -1);
    }

    private static void target() {
        beyond("no such herd", v -> x -> x.target(v), -1, -1, 6, LOWEST, HIGHEST);
        beyond("not told, through, without cattle", v -> x -> x.target(v), -1, 2, 3, 4);
        asks("target", x -> x.target(0));
        stays("none", x -> x.herd(0, 0, 13, 9, 0, 0), x -> x.target(0), -2);
        stays("one", x -> x.herd(0, 2, 3, 9, 0, 0), x -> x.target(0), 0);
    }

    private static void hours() {
        beyond("no such n", v -> x -> x.hours(v), -1, 0, -1, 25, LOWEST, HIGHEST);
        StarHerds x = by("s1(1=1)");
        x.ground(0, 1, 1);
        x.ground(0, 3, 1);
        x.herd(0, 0, 0, 9, 0, 0);
        x.herd(1, 0, 0, 9, 0, 0);
        due("1", x.hours(1), 2);
        due("an hour", x.count(1), 1);
        due("X", x.count(5), 39022);
        due("2", x.hours(2), 2);
        due("24", x.hours(24), 0);
        due("27 hours", 8 * x.count(0) + x.count(1), 27);
        alike("hours are one behind the other", y -> { }, y -> y.hours(5), rich().tried(5, 0), y -> {
            for (int k = 0; k < 5; k++) {
                y.hours(1);
            }
        });
    }

    private static void hour() {
        beyond("no such draw", v -> x -> x.hour(v), -1, -1, 10, LOWEST, HIGHEST);
        for (int draw = 0; draw < 10; draw++) {
            StarHerds x = by("wr(1=1);s9(1=1)");
            x.ground(0, 1, 1);
            x.herd(0, 0, 0, 20, 0, 0);
            due("lost", x.hour(draw), 9);
            due("by that draw", x.herdIs(0, 2), draw);
            due("X stays", x.count(5), 1);
            due("HOUR", x.count(1), 1);
        }
        alike("an hour by 2 from X 1 on is as HOURS but for X", x -> x.seed(1), x -> x.hour(2),
            hourBy1(), x -> {
                x.hours(1);
                x.seed(1);
            });
    }

    private static int hourBy1() {
        StarHerds x = rich();
        x.seed(1);
        return x.tried(1, 0);
    }

    private static void tried() {
        beyond("no such n", v -> x -> x.tried(v, 1), -1, 0, -1, 25, LOWEST, HIGHEST);
        StarHerds x = rich();
        int told = x.count(6);
        for (int what = -3; what < 70; what++) {
            boolean is = what >= 0 && what < 3 || what >= 10 && what < 50 && what % 10 < 6 && (told >> what % 10 & 1) == 1;
            due("what " + what, bit(x.tried(1, what) >= 0), bit(is));
        }
        beyond("no such what", v -> y -> y.tried(1, v), -1, -1, 3, 9, 14, 16, 19, 24, 34, 44, 46, 50, LOWEST, HIGHEST);
        x = by("s2(1=1);w9(1=1);f3(1=1)");
        x.ground(0, 12, 1);
        x.herd(0, 0, 11, 9, 1, 2);
        x.herd(5, 3, 0, 7, 1, 2);
        x.herd(1, 0, 13, 0, 0, 0);
        due("lost in one", x.tried(1, 0), 2);
        due("lost in three", x.tried(3, 0), 2);
        due("living", x.tried(1, 1), 14);
        due("through in two", x.tried(2, 2), 0);
        due("through in three", x.tried(3, 2), 7);
        due("through in 24", x.tried(24, 2), 14);
        due("cattle", x.tried(1, 10), 7);
        due("square in two", x.tried(2, 20), 182);
        due("square in three", x.tried(3, 20), 196);
        due("thirst: not in the hour when it goes through", x.tried(3, 30), 19);
        due("fear: not in the hour when it goes through", x.tried(24, 40), 8);
        due("of herd 5", x.tried(1, 25), 17);
        due("without cattle it stays", x.tried(24, 21), 182);
        asks("tried", y -> y.tried(24, 45));
        x = by("w9(1=1);f3(1=1)");
        for (int h = 0; h < 6; h++) {
            x.herd(h, h, 0, 10 + h, 20 + h, 30 + h);
        }
        for (int h = 0; h < 6; h++) {
            due("cattle of herd " + h, x.tried(2, 10 + h), 10 + h);
            due("square of herd " + h, x.tried(2, 20 + h), 28 + h);
            due("thirst of herd " + h, x.tried(2, 30 + h), 38 + h);
            due("fear of herd " + h, x.tried(2, 40 + h), 36 + h);
        }
    }

    private static void herdIs() {
        beyond("no such herd", v -> x -> x.herdIs(v, 1), -1, -1, 4, 6, LOWEST, HIGHEST);
        beyond("no such what", v -> x -> x.herdIs(0, v), -1, -1, 6, 10, LOWEST, HIGHEST);
        asks("herdIs", x -> x.herdIs(2, 0));
        StarHerds x = new StarHerds();
        x.herd(0, 13, 13, 999, 98, 97);
        x.fire(0, true);
        int[] due = {195, 999, 98, 97, 1, 1};
        for (int what = 0; what < 6; what++) {
            due("on: what " + what, x.herdIs(0, what), due[what]);
        }
        x.hour(0);
        int[] then = {196, 999, 98, 97, 1, 0};
        for (int what = 0; what < 6; what++) {
            due("through: what " + what, x.herdIs(0, what), then[what]);
        }
        x.herd(0, 0, 0, 0, 0, 0);
        for (int what = 0; what < 6; what++) {
            due("of none: what " + what, x.herdIs(0, what), 0);
        }
    }

    private static void lampIs() {
        beyond("no such lamp", v -> x -> x.lampIs(v, 0), -1, -1, 3, 11, 12, 13, 17, LOWEST, HIGHEST);
        beyond("no such what", v -> x -> x.lampIs(0, v), -1, -1, 4, LOWEST, HIGHEST);
        beyond("no such what of a stray one", v -> x -> x.lampIs(9, v), -1, -1, 4, LOWEST, HIGHEST);
        asks("lampIs", x -> x.lampIs(8, 2));
        StarHerds x = rich();
        due("a stray one's nights", x.lampIs(9, 2) + x.lampIs(9, 3), 0);
        due("inn 8's", x.lampIs(8, 2), 2);
        due("inn 1's dog", x.lampIs(1, 3), 3);
    }

    private static void led() {
        beyond("no such lamp", v -> x -> x.led(v), -1, -1, 19, LOWEST, HIGHEST);
        asks("led", x -> x.led(18));
        StarHerds x = rich();
        for (int l = 0; l < 19; l++) {
            due("a lamp, there or not", bit(x.led(l) >= 0), 1);
        }
    }

    private static void plan() {
        beyond("coins", v -> x -> x.plan(v, 0), -1, -1, 10000, LOWEST, HIGHEST);
        beyond("no such what", v -> x -> x.plan(9, v), -1, -1, 3, LOWEST, HIGHEST);
        for (int what = 0; what < 3; what++) {
            int w = what;
            asks("plan " + what, x -> x.plan(9999, w));
            asks("plan " + what + " without coins", x -> x.plan(0, w));
        }
    }

    private static void safe() {
        beyond("no such what", v -> x -> x.safe(v), -1, -1, 2, LOWEST, HIGHEST);
        asks("safe", x -> x.safe(0));
        asks("safe", x -> x.safe(1));
    }

    private static void place() {
        beyond("no such inn", v -> x -> x.place(v, 0), -1, -1, 3, 5, 9, 12, LOWEST, HIGHEST);
        beyond("no such what", v -> x -> x.place(0, v), -1, -1, 2, LOWEST, HIGHEST);
        for (int i : new int[] {0, 1, 2, 4, 8}) {
            asks("place " + i, x -> x.place(i, 0));
            asks("place " + i, x -> x.place(i, 1));
        }
    }

    private static void prices() {
        beyond("no such inn", v -> x -> x.prices(v, 2, 9, 0), -3, -1, 3, 5, 9, 10, 12, LOWEST, HIGHEST);
        beyond("no such other inn", v -> x -> x.prices(2, v, 9, 0), -3, -1, 3, 5, 9, 10, 12, LOWEST, HIGHEST);
        beyond("an inn that is lit", v -> x -> x.prices(v, 2, 9, 0), -3, 0, 1, 8);
        beyond("another that is lit", v -> x -> x.prices(4, v, 9, 0), -3, 0, 1, 8);
        stays("one twice", x -> x.prices(2, 2, 9, 0), -3);
        beyond("coins", v -> x -> x.prices(2, 4, v, 0), -3, -1, 10000, LOWEST, HIGHEST);
        beyond("no such what", v -> x -> x.prices(2, 4, 9, v), -3, -1, 3, LOWEST, HIGHEST);
        for (int what = 0; what < 3; what++) {
            int w = what;
            asks("prices " + what, x -> x.prices(2, 4, 9999, w));
            asks("prices " + what + " without coins", x -> x.prices(4, 2, 0, w));
        }
    }

    private static void whoLit() {
        Consumer<StarHerds> three = x -> {
            x.check(0);
            feed(x, x.tried(1, 20), x.tried(1, 21), x.tried(1, 25));
        };
        beyond("no such n", v -> x -> x.whoLit(v, 0), -1, 0, -1, 5, 9, LOWEST, HIGHEST);
        beyond("no such what", v -> x -> x.whoLit(1, v), -1, -1, 3, LOWEST, HIGHEST);
        stays("it has not so many", NO_TAPE, x -> x.whoLit(1, 0), -1);
        for (int what = 0; what < 3; what++) {
            int w = what;
            StarHerds x = rich();
            three.accept(x);
            int answer = x.whoLit(1, w);
            due("as it will come", bit(answer >= 0), 1);
            empties("as it will come", three, y -> y.whoLit(1, w), answer);
            empties("none", y -> { }, y -> y.whoLit(4, w), w == 0 ? 0 : -2);
        }
    }

    private static void where() {
        beyond("no such herd, not told, not on", v -> x -> x.where(v, 1, 0, 0), -1, -1, 2, 3, 4, 6, LOWEST, HIGHEST);
        beyond("no such n", v -> x -> x.where(0, v, 0, 0), -1, 0, -1, 5, 8, 9, LOWEST, HIGHEST);
        beyond("no such square", v -> x -> x.where(0, 1, v, 0), -1, -1, 196, 255, LOWEST, HIGHEST);
        beyond("no such what", v -> x -> x.where(0, 1, 0, v), -1, -1, 2, LOWEST, HIGHEST);
        stays("none", x -> x.where(0, 1, 105, 0), 0);
        stays("none", x -> x.where(0, 1, 105, 1), -2);
        asks("where", x -> x.where(0, 4, 195, 0));
    }

    private static void odds() {
        beyond("no such n", v -> x -> x.odds(v, 9, 0), -1, 0, -1, 4, LOWEST, HIGHEST);
        beyond("living", v -> x -> x.odds(1, v, 0), -1, -1, 10000, LOWEST, HIGHEST);
        beyond("no such what", v -> x -> x.odds(1, 9, v), -1, -1, 2, LOWEST, HIGHEST);
        StarHerds x = by("sr/[10-k](1=1);a9(1=1)");
        x.ground(0, 1, 1);
        x.herd(0, 0, 0, 9, 0, 0);
        due("always: 1", x.odds(3, 9, 0), 1);
        due("always: of 1", x.odds(3, 9, 1), 1);
        due("never: 0", x.odds(3, 10, 0), 0);
        due("never: of 1", x.odds(3, 10, 1), 1);
    }

    private static void seed() {
        beyond("no such number", v -> x -> bit(x.seed(v)), 0, -1, 65536, LOWEST, HIGHEST);
        for (int seed : new int[] {0, 1, 65534, 65535}) {
            StarHerds x = rich();
            yes("a seed", x.seed(seed));
            due("X, too", x.count(5), seed);
            x.hours(1);
            due("X from there on", x.count(5), (int) ((25173L * seed + 13849) % 65536));
        }
    }

    private static void clouded() {
        alike("clouded changes clouds and X alone", x -> x.seed(1), x -> x.clouded(), (0xaa & 15) + 16, x -> {
            // From HOUR 4 on: the draws 2 7 6 5 and q 5.
            x.clouds(10 + 16);
            x.seed(45005);
        });
        StarHerds x = rich();
        int clouds = x.clouded();
        due("the clouds then", x.count(2), clouds);
    }

    private static void keep() {
        StarHerds x = new StarHerds();
        due("of none", x.keep(), 0);
        x.herd(0, 0, 0, 0, 0, 0);
        due("without cattle", x.keep(), 0);
        for (int h = 0; h < 6; h++) {
            x.herd(h, 0, 13, 999, 0, 0);
        }
        due("of all", x.keep(), 5994);
        x.hour(0);
        due("through", x.keep(), 5994);
        x = rich();
        int living = x.count(9);
        due("living", x.keep(), living);
        int[] now = all(rich());
        x = rich();
        x.keep();
        int[] kept = all(x);
        for (int k = 0; k < now.length; k++) {
            due("keep changes nothing else: number " + k, kept[k], now[k]);
        }
    }

    private static void undo() {
        StarHerds x = new StarHerds();
        no("none was kept", x.undo());
        x.herd(0, 0, 0, 9, 0, 0);
        no("none was kept", x.undo());
        due("nothing is changed", x.count(9), 9);
        x.keep();
        x.herd(0, 0, 0, 8, 0, 0);
        yes("kept", x.undo());
        due("as kept", x.count(9), 9);
        yes("again", x.undo());
        due("as kept", x.count(9), 9);
        x.hours(5);
        x.herd(1, 1, 1, 5, 0, 0);
        yes("again, later", x.undo());
        due("told as kept", x.count(6), 1);
        due("HOUR as kept", x.count(1), 0);
        // What is kept stays as it was when what came behind it changes.
        x.ground(5, 5, 3);
        x.undo();
        due("no rock", x.count(100 + 75), 0);
    }

    private static void check() {
        beyond("no such n", v -> x -> x.check(v), -2, -1, 7, LOWEST, HIGHEST);
        stays("24 of 20 bytes", x -> x.check(6), -2);
        stays("4 of none", NO_TAPE, x -> x.check(1), -2);
        empties("nothing of 20 bytes", x -> { }, x -> x.check(0), -1);
        empties("20 of 20 bytes", x -> { }, x -> x.check(5), -1);
        empties("24 of 40 bytes: herd 5 has 15", x -> feed(x, 0, 0, 0, 15), x -> x.check(6), -1);
        empties("24 of 40 bytes: herd 5 has not 14", x -> feed(x, 0, 0, 0, 14), x -> x.check(6), 5);
        empties("wrong at 0", x -> {
            x.check(0);
            x.feed(-1, -1, -1, -1, -1);
        }, x -> x.check(5), 0);
        empties("not told, but not 0", x -> {
            x.check(0);
            x.feed(x.herdIs(0, 1), x.herdIs(1, 1), 20, 0, 1);
        }, x -> x.check(5), 4);
    }

    private static void count() {
        beyond("no such what", v -> x -> x.count(v), -1, -1, 14, 15, 99, 296, 297, LOWEST, HIGHEST);
        for (int what : new int[] {0, 1, 2, 3, 4, 5, 6, 7, 8, 9, 10, 13, 100, 295}) {
            asks("count " + what, x -> x.count(what));
        }
        StarHerds x = rich();
        due("THE NIGHT", x.count(0), 1);
        due("HOUR", x.count(1), 4);
        due("clouds", x.count(2), 0xaa);
        due("clauses", x.count(3), 8);
        due("bytes", x.count(4), 20);
        due("X", x.count(5), 4711);
        due("told", x.count(6), 1 + 2 + 4 + 8 + 32);
        due("on", x.count(7), 1 + 2 + 32);
        due("lit", x.count(8), 1 + 2 + 256 + 512 + 1024 + (1 << 17));
        due("living", x.count(9), x.herdIs(0, 1) + x.herdIs(1, 1) + 20 + 15);
        due("coins", x.count(11), 51);
        due("rocks", x.count(100 + 14 * 7 + 7) + x.count(100 + 14 * 2 + 8), 6);
    }
}
