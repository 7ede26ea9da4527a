/** The edges of squares, lamps, herds, the night and drovers, as the document's 'Terms' name them. */
public final class PlainEdgesTest extends Edges {
    public static void main(String[] args) throws Exception {
        open();
        edge("SQUARES x, y (0 to 13; number: 14 y and x)", PlainEdgesTest::squares);
        edge("SORT 0 open (at first), 1 bog, 2 well, 3 rock", PlainEdgesTest::sorts);
        edge("LAMPS: 0 to 8 INNS, 9 to 11 STRAY ones: there or not", PlainEdgesTest::lamps);
        edge("at a SQUARE that was no rock when it was told", PlainEdgesTest::rocks);
        edge("of a KIND (0 to 4)", PlainEdgesTest::kinds);
        edge("An INN is LIT while it is PAID for NIGHTS (0 to 99; 0 at first)", PlainEdgesTest::paid);
        edge("or a DOG keeps it on for NIGHTS (0 to 99; 0 at first)", PlainEdgesTest::dogs);
        edge("a STRAY one if it was told so", PlainEdgesTest::strays);
        edge("LAMP 12 + h: the horns of HERD h, KIND 5, at its SQUARE", PlainEdgesTest::horns);
        edge("LIT while they are on FIRE and the HERD is ON", PlainEdgesTest::fires);
        edge("HERDS 0 to 5: told or not", PlainEdgesTest::herds);
        edge("a SQUARE, CATTLE (0 to 999), THIRST, FEAR (0 to 99 each)", PlainEdgesTest::cattle);
        edge("ON the plain, if it has CATTLE and is not THROUGH", PlainEdgesTest::on);
        edge("THE NIGHT (0 at first) has HOURS 0 to 7", PlainEdgesTest::night);
        edge("CLOUDS: bits of its HOURS (0 at first)", PlainEdgesTest::clouds);
        edge("each INN is PAID for one NIGHT less, its DOG keeps it one less (not below 0)", PlainEdgesTest::nightsLess);
        edge("THE NIGHT is one more, HOUR 0, no CLOUDS", PlainEdgesTest::nextNight);
        edge("X = (25173 X + 13849) modulo 65536 (X is THE SEED at first, 1): X modulo 10", PlainEdgesTest::draws);
        edge("DROVERS 0 to 3: COINS (0 to 9999; 0 at first)", PlainEdgesTest::drovers);
        edge("To PAY an INN for NIGHTS: b (asked now) times NIGHTS", PlainEdgesTest::beer);
        edge("A call that is refused (NONE, false) changes nothing but the tape, where it is told", PlainEdgesTest::refused);
        edge("Where several of these fit one call NONE (or what is told in its place) is told first, then a FAULT, "
            + "then -2, then -3 and so on (but where a call tells otherwise); in prices() -3 ahead of -2",
            PlainEdgesTest::several);
        end("PlainEdgesTest");
    }

    private static void squares() {
        within("ground's x", 0, 13, v -> x -> bit(x.ground(v, 5, 0)), 0);
        within("ground's y", 0, 13, v -> x -> bit(x.ground(5, v, 0)), 0);
        within("an inn's x", 0, 13, v -> x -> bit(x.inn(0, v, 5, 0)), 0);
        within("an inn's y", 0, 13, v -> x -> bit(x.inn(0, 5, v, 0)), 0);
        within("a stray lamp's x", 0, 13, v -> x -> bit(x.stray(9, v, 5, 0, true)), 0);
        within("a stray lamp's y", 0, 13, v -> x -> bit(x.stray(9, 5, v, 0, true)), 0);
        within("a herd's x", 0, 13, v -> x -> bit(x.herd(0, v, 5, 9, 9, 9)), 0);
        within("a herd's y", 0, 13, v -> x -> bit(x.herd(0, 5, v, 9, 9, 9)), 0);
        within("a square's number", 100, 295, v -> x -> x.count(v), -1);
        int[][] corners = {{0, 0, 0}, {13, 0, 13}, {0, 1, 14}, {0, 13, 182}, {13, 13, 195}};
        for (int[] c : corners) {
            StarHerds x = new StarHerds();
            yes("ground", x.ground(c[0], c[1], 2));
            for (int s = 0; s < 196; s++) {
                due("sort of " + s, x.count(100 + s), s == c[2] ? 2 : 0);
            }
            yes("lamps and a herd", x.inn(0, c[0], c[1], 0) && x.stray(9, c[0], c[1], 0, true)
                && x.herd(0, c[0], c[1], 9, 9, 9));
            due("an inn", x.lampIs(0, 0), c[2]);
            due("a stray lamp", x.lampIs(9, 0), c[2]);
            due("a herd", x.herdIs(0, 0), c[2]);
        }
    }

    private static void sorts() {
        within("a sort", 0, 3, v -> x -> bit(x.ground(0, 5, v)), 0);
        StarHerds x = new StarHerds();
        due("at first", x.count(100), 0);
        for (int sort : new int[] {3, 2, 1, 0}) {
            yes("sort " + sort, x.ground(0, 0, sort));
            due("sort", x.count(100), sort);
        }
    }

    private static void lamps() {
        within("an inn", 0, 8, v -> x -> bit(x.inn(v, 5, 5, 0)), 0);
        within("a stray lamp", 9, 11, v -> x -> bit(x.stray(v, 5, 5, 0, true)), 0);
        StarHerds x = new StarHerds();
        for (int l = 0; l < 12; l++) {
            due("not there: lit " + l, x.lit(l), -1);
            due("not there: lampIs " + l, x.lampIs(l, 0), -1);
            yes("lamp " + l, l < 9 ? x.inn(l, l, 0, 0) : x.stray(l, l, 0, 0, false));
            due("there: lit " + l, x.lit(l), 0);
            due("there: lampIs " + l, x.lampIs(l, 0), l);
        }
        for (int l = 0; l < 12; l++) {
            due("each stays where it is", x.lampIs(l, 0), l);
        }
    }

    private static void rocks() {
        stays("an inn on a rock", x -> bit(x.inn(0, 7, 7, 0)), 0);
        stays("a new inn on a rock", x -> bit(x.inn(5, 7, 7, 0)), 0);
        stays("a stray lamp on a rock", x -> bit(x.stray(9, 7, 7, 0, true)), 0);
        stays("a new stray lamp on a rock", x -> bit(x.stray(11, 8, 2, 0, true)), 0);
        for (int sort = 0; sort < 4; sort++) {
            StarHerds x = new StarHerds();
            x.ground(1, 1, sort);
            due("an inn on sort " + sort, bit(x.inn(0, 1, 1, 0)), bit(sort < 3));
            due("a stray lamp on sort " + sort, bit(x.stray(9, 1, 1, 0, true)), bit(sort < 3));
        }
        StarHerds x = new StarHerds();
        x.ground(1, 1, 3);
        x.ground(1, 1, 0);
        yes("a rock no more", x.inn(0, 1, 1, 0));
    }

    private static void kinds() {
        within("an inn's kind", 0, 4, v -> x -> bit(x.inn(0, 5, 5, v)), 0);
        within("a stray lamp's kind", 0, 4, v -> x -> bit(x.stray(9, 5, 5, v, true)), 0);
        StarHerds x = new StarHerds();
        for (int kind = 0; kind < 5; kind++) {
            x.inn(0, 5, 5, kind);
            x.stray(9, 5, 5, 4 - kind, true);
            due("an inn's kind", x.lampIs(0, 1), kind);
            due("a stray lamp's kind", x.lampIs(9, 1), 4 - kind);
        }
    }

    private static void paid() {
        StarHerds x = new StarHerds();
        x.inn(0, 5, 5, 0);
        due("at first", x.lampIs(0, 2), 0);
        due("not lit at first", x.lit(0), 0);
        due("one night", x.pay(0, 0, 1), 0);
        due("one night", x.lampIs(0, 2), 1);
        due("lit", x.lit(0), 1);
        x.hours(7);
        due("lit in HOUR 7", x.lit(0), 1);
        x.hours(1);
        due("no night is left", x.lit(0), 0);
        for (int k = 0; k < 11; k++) {
            x.pay(0, 0, 9);
        }
        due("99", x.lampIs(0, 2), 99);
        due("100", x.pay(0, 0, 1), -3);
        due("99", x.lampIs(0, 2), 99);
    }

    private static void dogs() {
        within("nights", 0, 99, v -> x -> bit(x.dog(0, v)), 0);
        StarHerds x = new StarHerds();
        x.inn(0, 5, 5, 0);
        due("at first", x.lampIs(0, 3), 0);
        for (int nights : new int[] {99, 1, 0}) {
            yes("nights", x.dog(0, nights));
            due("nights", x.lampIs(0, 3), nights);
            due("lit", x.lit(0), bit(nights > 0));
        }
        x.dog(0, 1);
        x.hours(7);
        due("lit in HOUR 7", x.lit(0), 1);
        x.hours(1);
        due("no night is left", x.lit(0), 0);
        x.dog(0, 1);
        x.pay(0, 0, 2);
        x.hours(8);
        due("still paid", x.lit(0), 1);
        x.dog(0, 1);
        x.hours(8);
        due("neither is left", x.lit(0), 0);
    }

    private static void strays() {
        for (int l = 9; l < 12; l++) {
            StarHerds x = new StarHerds();
            x.stray(l, 5, 5, 0, true);
            due("told so", x.lit(l), 1);
            x.hours(24);
            due("told so, nights later", x.lit(l), 1);
            x.stray(l, 5, 5, 0, false);
            due("not told so", x.lit(l), 0);
        }
    }

    private static void horns() {
        StarHerds x = by("a100*k+l(1=1)");
        x.herd(0, 0, 0, 9, 0, 0);
        x.herd(5, 13, 13, 9, 0, 0);
        due("herd 5's: KIND 5, LAMP 17", x.pull(0, 17), 517);
        due("herd 0's: KIND 5, LAMP 12", x.pull(5, 12), 512);
        law(x, "ad(1=1)");
        due("at its square", x.pull(0, 17), 26);
        x.herd(5, 1, 0, 9, 0, 0);
        due("at its square now", x.pull(0, 17), 1);
        stays("no LAMP 18", y -> y.lit(18), -1);
        stays("no LAMP 18 that pulls", y -> y.pull(0, 18), -1);
        stays("horns stand for no lamp of their own", y -> y.lampIs(12, 0), -1);
        stays("horns can't go", y -> bit(y.gone(12)), 0);
    }

    private static void fires() {
        StarHerds x = by("x99(1=1);w99(1=1)");
        x.herd(0, 5, 5, 1, 0, 0);
        x.herd(5, 5, 13, 1, 0, 0);
        due("no fire", x.lit(12), 0);
        yes("on fire", x.fire(0, true) && x.fire(5, true));
        due("on fire and on", x.lit(12), 1);
        due("on fire and on", x.lit(17), 1);
        x.hour(0);
        due("on fire without cattle", x.lit(12), 0);
        due("on fire and through", x.lit(17), 0);
        due("of a herd that is not told", x.lit(13), -1);
        x.herd(0, 5, 5, 1, 0, 0);
        due("told anew: no fire", x.lit(12), 0);
    }

    private static void herds() {
        within("a herd", 0, 5, v -> x -> bit(x.herd(v, 5, 5, 9, 9, 9)), 0);
        StarHerds x = new StarHerds();
        for (int h = 0; h < 6; h++) {
            due("not told: herdIs " + h, x.herdIs(h, 1), -1);
            due("not told: horns " + h, x.lit(12 + h), -1);
            due("told so far", x.count(6), (1 << h) - 1);
            yes("herd " + h, x.herd(h, h, 0, h, 0, 0));
            due("told: herdIs " + h, x.herdIs(h, 1), h);
            due("told: horns " + h, x.lit(12 + h), 0);
        }
        due("each stays as it is", x.count(9), 15);
    }

    private static void cattle() {
        within("cattle", 0, 999, v -> x -> bit(x.herd(0, 5, 5, v, 9, 9)), 0);
        within("thirst", 0, 99, v -> x -> bit(x.herd(0, 5, 5, 9, v, 9)), 0);
        within("fear", 0, 99, v -> x -> bit(x.herd(0, 5, 5, 9, 9, v)), 0);
        StarHerds x = new StarHerds();
        x.herd(0, 5, 5, 999, 99, 0);
        due("cattle", x.herdIs(0, 1), 999);
        due("thirst", x.herdIs(0, 2), 99);
        due("fear", x.herdIs(0, 3), 0);
        x.herd(0, 5, 5, 0, 0, 99);
        due("cattle", x.herdIs(0, 1), 0);
        due("thirst", x.herdIs(0, 2), 0);
        due("fear", x.herdIs(0, 3), 99);
    }

    private static void on() {
        StarHerds x = by("a9(1=1);s1(1=1)");
        x.herd(0, 5, 5, 0, 0, 0);
        due("without cattle", x.herdIs(0, 5), 0);
        due("without cattle", x.count(7), 0);
        x.hour(0);
        due("without cattle it does not go", x.herdIs(0, 0), 75);
        x.herd(0, 5, 5, 1, 0, 0);
        due("with one", x.herdIs(0, 5), 1);
        due("with one", x.count(7), 1);
        x.hour(0);
        due("with one it goes", x.herdIs(0, 0), 89);
        x.ground(5, 7, 1);
        due("the last one sinks", x.hour(0), 1);
        due("not on", x.herdIs(0, 5), 0);
        x.herd(0, 5, 12, 7, 0, 0);
        x.hour(0);
        due("in the last row it is on", x.herdIs(0, 5), 1);
        x.hour(0);
        due("through it is not", x.herdIs(0, 5), 0);
        due("through", x.herdIs(0, 0), 196);
        due("through with its cattle", x.herdIs(0, 1), 7);
        due("it is there no more", x.target(0), -1);
    }

    private static void night() {
        StarHerds x = new StarHerds();
        due("at first", x.count(0), 0);
        for (int k = 0; k < 17; k++) {
            due("HOUR behind " + k, x.count(1), k % 8);
            due("NIGHT behind " + k, x.count(0), k / 8);
            x.hour(0);
        }
        x.hours(23);
        due("40 hours: five nights", x.count(0), 5);
        due("40 hours", x.count(1), 0);
        for (int k = 0; k < 100; k++) {
            x.hours(24);
        }
        due("three nights each", x.count(0), 305);
    }

    private static void clouds() {
        within("clouds", 0, 255, v -> x -> bit(x.clouds(v)), 0);
        StarHerds x = by("a9(1=1)");
        due("at first", x.count(2), 0);
        x.stray(9, 9, 0, 0, true);
        x.herd(0, 5, 0, 9, 0, 0);
        due("no clouds", x.target(0), 9);
        for (int hour = 0; hour < 8; hour++) {
            x.herd(0, 5, 0, 9, 0, 0);
            x.clouds(1 << hour);
            due("bit " + hour + " in that hour", x.target(0), -2);
            x.clouds(255 - (1 << hour));
            due("all other bits in hour " + hour, x.target(0), 9);
            x.hour(0);
        }
    }

    private static void nightsLess() {
        StarHerds x = new StarHerds();
        for (int i = 0; i < 9; i++) {
            x.inn(i, 5, 5, 0);
            x.dog(i, 8 - i);
            if (i > 0) {
                x.pay(0, i, i);
            }
        }
        x.hours(7);
        due("in HOUR 7 not yet", x.lampIs(8, 2), 8);
        due("in HOUR 7 not yet", x.lampIs(0, 3), 8);
        for (int nights = 1; nights < 10; nights++) {
            x.hours(nights == 1 ? 1 : 8);
            for (int i = 0; i < 9; i++) {
                due("paid", x.lampIs(i, 2), Math.max(0, i - nights));
                due("dog", x.lampIs(i, 3), Math.max(0, 8 - i - nights));
            }
        }
    }

    private static void nextNight() {
        StarHerds x = new StarHerds();
        x.hours(7);
        x.clouds(255);
        due("NIGHT", x.count(0), 0);
        due("HOUR", x.count(1), 7);
        x.hour(0);
        due("NIGHT", x.count(0), 1);
        due("HOUR", x.count(1), 0);
        due("clouds", x.count(2), 0);
        x.clouds(255);
        x.hours(7);
        due("clouds stay till then", x.count(2), 255);
    }

    private static void draws() {
        StarHerds x = new StarHerds();
        due("at first", x.count(5), 1);
        x.hours(1);
        due("1 x 25173 + 13849", x.count(5), 39022);
        // 65535 x 25173 + 13849 = 1649726404 = 25172 x 65536 + 54212, as -25173 + 13849 = -11324.
        int[][] next = {{0, 13849}, {65535, 54212}, {2, 64195}, {3, 23832}, {32768, 46617}, {3915, 0},
            {33870, 65535}, {32045, 10}, {62000, 9}};
        for (int[] n : next) {
            x.seed(n[0]);
            x.hours(1);
            due("behind " + n[0], x.count(5), n[1]);
        }
        // Their last digits are the draws from 1 on.
        int[] xs = {39022, 61087, 20196, 45005, 3882, 21259, 65216, 19417};
        x = by("fr-1(1=1)");
        x.seed(1);
        int fear = 9;
        x.herd(0, 0, 0, 9, 0, fear);
        for (int k = 0; k < 8; k++) {
            x.hours(1);
            fear += xs[k] % 10 - 1;
            due("X", x.count(5), xs[k]);
            due("fear by the draw", x.herdIs(0, 3), fear);
        }
    }

    private static void drovers() {
        within("a drover", 0, 3, v -> x -> bit(x.drover(v, 5)), 0);
        within("coins", 0, 9999, v -> x -> bit(x.drover(0, v)), 0);
        StarHerds x = new StarHerds();
        for (int d = 0; d < 4; d++) {
            due("at first", x.count(10 + d), 0);
            x.drover(d, 9999 - d);
        }
        for (int d = 0; d < 4; d++) {
            due("coins", x.count(10 + d), 9999 - d);
        }
        stays("no drover 4", y -> y.count(14), -1);
    }

    private static void beer() {
        StarHerds x = by("b999(u=0);b5+p(u=1);b0-7(u=2)");
        x.inn(0, 5, 5, 0);
        x.drover(0, 8990);
        due("9 times 999 is one more than it has", x.pay(0, 0, 9), -2);
        x.drover(0, 8991);
        due("9 times 999 is all it has", x.pay(0, 0, 9), 8991);
        due("nothing is left", x.count(10), 0);
        x.hour(0);
        x.drover(0, 100);
        due("asked in this hour, by the nights that are paid", x.pay(0, 0, 2), 28);
        due("asked anew", x.pay(0, 0, 1), 16);
        x.hour(0);
        due("not below 0", x.pay(0, 0, 9), 0);
        due("coins", x.count(10), 56);
    }

    private static void refused() {
        // Each call once with each thing wrong that its promise names; the tests of promises go on from here.
        stays("ground", x -> bit(x.ground(-1, 0, 0)), 0);
        stays("inn", x -> bit(x.inn(9, 0, 0, 0)), 0);
        stays("stray", x -> bit(x.stray(12, 0, 0, 0, true)), 0);
        stays("gone", x -> bit(x.gone(3)), 0);
        stays("dog", x -> bit(x.dog(3, 1)), 0);
        stays("herd", x -> bit(x.herd(6, 0, 0, 1, 1, 1)), 0);
        stays("fire", x -> bit(x.fire(4, true)), 0);
        stays("drover", x -> bit(x.drover(4, 1)), 0);
        stays("price", x -> x.price(3), -1);
        stays("pay", x -> x.pay(0, 3, 1), -1);
        stays("clouds", x -> bit(x.clouds(256)), 0);
        stays("hours", x -> x.hours(25), -1);
        stays("hour", x -> x.hour(10), -1);
        stays("seed", x -> bit(x.seed(65536)), 0);
        stays("law without so many bytes: the tape stays", x -> x.law(21), -1);
        stays("whoLit without such n: the tape stays", x -> x.whoLit(0, 0), -1);
        stays("check without so many bytes: the tape stays", x -> x.check(6), -2);
        empties("a FAULT: the tape is empty", x -> { }, x -> x.law(1), -1000);
    }

    private static void several() {
        stays("law: no such n and not so many bytes", x -> x.law(241), -1);
        stays("law: NONE ahead of the FAULT that 21 bytes would be", x -> x.law(21), -1);
        stays("pay: NONE ahead of -2", x -> x.pay(2, 8, 10), -1);
        stays("pay: NONE ahead of -2", x -> x.pay(2, 3, 9), -1);
        stays("pay: -2 ahead of -3", PlainEdgesTest::payAll, x -> x.pay(2, 8, 1), -2);
        stays("pay: -3 alone", PlainEdgesTest::payAll, x -> x.pay(3, 8, 1), -3);
        stays("whoLit: NONE ahead of -2", x -> feed(x, 1, 1, 1, 1), x -> x.whoLit(9, 1), -1);
        stays("where: NONE ahead of -2", x -> x.where(0, 1, 0, 2), -1);
        stays("where: -2 alone", x -> x.where(0, 1, 0, 1), -2);
        stays("safe: NONE ahead of -2", PlainEdgesTest::loseAnyway, x -> x.safe(2), -1);
        stays("safe: -2 alone", PlainEdgesTest::loseAnyway, x -> x.safe(1), -2);
        stays("prices: -3 ahead of -2", PlainEdgesTest::cheap, x -> x.prices(2, 2, 5, 1), -3);
        stays("prices: -3 ahead of -2", PlainEdgesTest::cheap, x -> x.prices(2, 0, 5, 1), -3);
        stays("check: -2 for no such n, though NONE would tell that all is right", x -> x.check(-1), -2);
    }

    private static void payAll(StarHerds x) {
        law(x, "b1(1=1)");
        for (int k = 0; k < 10; k++) {
            x.pay(3, 8, 9);
        }
        x.pay(3, 8, 7);
        due("paid", x.lampIs(8, 2), 99);
    }

    private static void loseAnyway(StarHerds x) {
        law(x, "s9(1=1)");
        x.ground(0, 0, 1);
        x.ground(0, 1, 1);
        x.herd(0, 0, 0, 9, 0, 0);
    }

    private static void cheap(StarHerds x) {
        law(x, "b1(1=1)");
    }
}
