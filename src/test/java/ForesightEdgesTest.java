import java.util.function.Consumer;

/** The edges of what is foreseen and guessed: the document's parts 2 and 3. */
public final class ForesightEdgesTest extends Edges {
    public static void main(String[] args) throws Exception {
        open();
        edge("TRIED are so many HOURS (1 to 24) by the DRAWS that will come; nothing is changed", ForesightEdgesTest::tried);
        edge("(CLOUDS as they are, then none)", ForesightEdgesTest::cloudsThen);
        edge("LIVING are CATTLE of all HERDS, THROUGH too", ForesightEdgesTest::living);
        edge("INNS that are not LIT (a set of them, each for its b, together not above COINS)", ForesightEdgesTest::coins);
        edge("are LIT for what is left of THE NIGHT: by which most are LIVING at its end", ForesightEdgesTest::isLeft);
        edge("of like ones for the least COINS; of like ones the least set (bits). SAFE", ForesightEdgesTest::likeSets);
        edge("likewise the least COINS by which none is lost (of like ones the least set)", ForesightEdgesTest::safe);
        edge("A PLACE: an INN that is there is LIT and stands on some SQUARE (no rock; its own is one of them)",
            ForesightEdgesTest::places);
        edge("by which most are LIVING at the end of THE NIGHT; of like ones the lowest SQUARE", ForesightEdgesTest::lowest);
        edge("PRICES of two INNS that are there and not LIT, 1 to 5 each (all others by b), by so many COINS",
            ForesightEdgesTest::oneToFive);
        edge("they REST if neither gains more by another price of its own alone", ForesightEdgesTest::rest);
        edge("how many such twos; the first (by the first one's)", ForesightEdgesTest::firstTwo);
        edge("(by numbers; 255: not ON any more)", ForesightEdgesTest::notOn);
        edge("behind n HOURS (1 to 8, not beyond THE NIGHT)", ForesightEdgesTest::notBeyond);
        edge("STRAY ones that are there (LIT or not) and the first five INNS that are there and not LIT",
            ForesightEdgesTest::unknown);
        edge("sets of them by which it comes so (STRAY ones not in the set are not LIT)", ForesightEdgesTest::sets);
        edge("how many, the first (least bits), LAMPS in all of them", ForesightEdgesTest::inAll);
        edge("WHERE: a HERD that is ON is on a told SQUARE behind n HOURS", ForesightEdgesTest::toldSquare);
        edge("SQUARES (no rock) where it may be now, all else as it is: how many, the first", ForesightEdgesTest::from);
        edge("over all DRAWS of n HOURS (1 to 3; each 0 to 9 alike) that at least so many are LIVING behind them",
            ForesightEdgesTest::odds);
        edge("for each HOUR from this one to 7: X as for a DRAW; CLOUDS if X modulo 10 is below q (asked for that HOUR)",
            ForesightEdgesTest::clouded);
        edge("KEPT: SORTS, LAMPS, HERDS, DROVERS, THE NIGHT, HOUR, CLOUDS, what is LED, X; UNDONE: as they were KEPT last",
            ForesightEdgesTest::kept);
        edge("CHECK: CATTLE of HERDS: right, or the first number that is not so", ForesightEdgesTest::check);
        edge("An object is used for at most 512 calls after it has been made", ForesightEdgesTest::lastCall);
        end("ForesightEdgesTest");
    }

    private static int square(int x, int y) {
        return 14 * y + x;
    }

    /** Herds that stand at 2 h, 0 ahead of a bog in which all of them sink. */
    private static void herds(StarHerds x, int... cattle) {
        for (int h = 0; h < cattle.length; h++) {
            x.ground(2 * h, 1, 1);
            x.herd(h, 2 * h, 0, cattle[h], 0, 0);
        }
    }

    /** Inn h, or h + 6, saves herd h and no other one; an inn of KIND k costs k + 1. */
    private static StarHerds ahead(int... cattle) {
        StarHerds x = by("a9(l=h|l=h+6);s99(1=1);b1+k(1=1)");
        herds(x, cattle);
        return x;
    }

    private static void inn(StarHerds x, int i, int kind) {
        yes("an inn", x.inn(i, 2 * (i % 6), 0, kind));
    }

    private static void tried() {
        within("hours", 1, 24, v -> x -> x.tried(v, 1), -1);
        asks("tried 1", x -> x.tried(1, 0));
        asks("tried 24", x -> x.tried(24, 20));
        StarHerds x = by("w1(1=1)");
        x.inn(0, 13, 13, 0);
        x.herd(0, 0, 0, 9, 0, 0);
        for (int n = 1; n <= 24; n++) {
            due("thirst behind " + n, x.tried(n, 30), Math.min(n, 13));
        }
        // The draws from 1 on are 2 7 6 5 2 9 6 7.
        x = by("fr(1=1)");
        x.herd(0, 0, 0, 9, 0, 0);
        due("by draw 2", x.tried(1, 40), 2);
        due("by 2 and 7", x.tried(2, 40), 9);
        x.hour(0);
        due("X stays by a told draw", x.tried(1, 40), 2);
        x.hours(1);
        due("the next draw", x.tried(1, 40), 2 + 7);
    }

    private static void cloudsThen() {
        // A lamp 4 off: by clouds it is not seen.
        StarHerds x = by("a9(1=1)");
        x.hours(7);
        x.stray(9, 5, 4, 0, true);
        x.herd(0, 1, 4, 9, 0, 0);
        x.clouds(255);
        due("clouds in HOUR 7", x.tried(1, 20), square(1, 5));
        x.clouds(127);
        due("no clouds in HOUR 7", x.tried(1, 20), square(2, 4));
        x.clouds(255);
        due("none in the night behind it", x.tried(2, 20), square(2, 5));
        due("changed nothing", x.count(2), 255);
        x.clouds(1);
        x.stray(9, 8, 4, 0, true);
        due("the bit of HOUR 0 is not for the next night", x.tried(2, 20), square(1, 6));
        x.stray(9, 5, 5, 0, true);
        due("nor here", x.tried(1, 20), square(2, 4));
    }

    private static void living() {
        StarHerds x = by("x99(1=1);w99(1=1)");
        due("no herds", x.count(9), 0);
        x.herd(0, 0, 13, 999, 0, 0);
        x.herd(1, 0, 0, 0, 0, 0);
        due("one", x.count(9), 999);
        due("through", x.tried(1, 2), 999);
        due("through is living", x.tried(1, 1), 999);
        x.herd(2, 0, 0, 100, 0, 0);
        due("less those that die", x.tried(1, 1), 1000);
        due("of them through", x.tried(24, 2), 999);
        x.hour(0);
        due("living", x.count(9), 1000);
        due("kept", x.keep(), 1000);
        for (int h = 0; h < 6; h++) {
            x.herd(h, 5, 5, 999, 0, 0);
        }
        due("all of six herds", x.count(9), 5994);
    }

    private static void coins() {
        within("coins", 0, 9999, v -> x -> x.plan(v, 0), -1);
        StarHerds x = ahead(20, 30);
        inn(x, 0, 2);
        inn(x, 1, 3);
        due("2 coins", x.plan(2, 0), 0);
        due("3 coins", x.plan(3, 0), 1);
        due("4 coins", x.plan(4, 0), 2);
        due("6 coins", x.plan(6, 0), 2);
        due("6 coins: 4 of them", x.plan(6, 1), 4);
        due("6 coins: living", x.plan(6, 2), 30);
        due("7 coins are 3 and 4", x.plan(7, 0), 3);
        due("7 coins", x.plan(7, 1), 7);
        due("7 coins: living", x.plan(7, 2), 50);
        due("more than needed", x.plan(9999, 1), 7);
        x.dog(0, 1);
        due("one that is lit is none of it", x.plan(7, 0), 2);
        due("and saves", x.plan(7, 2), 50);
        due("and costs nothing", x.plan(7, 1), 4);
        x.gone(1);
        due("one that is gone is none of it", x.plan(9, 0), 0);
        due("living", x.plan(9, 2), 20);
        x.gone(0);
        due("no inns", x.plan(9999, 0), 0);
        due("no inns", x.plan(9999, 1), 0);
        due("no inns", x.plan(9999, 2), 0);
        law(x, "a9(l=h|l=h+6);s99(1=1);b0(1=1)");
        inn(x, 0, 2);
        inn(x, 1, 3);
        due("for nothing", x.plan(0, 0), 3);
        due("for nothing", x.plan(0, 1), 0);
        x = by("a9(l=h|l=h+3&l>5);s99(1=1);b999(1=1)");
        herds(x, 1, 2, 3, 4, 5, 6);
        for (int i = 0; i < 9; i++) {
            yes("an inn", x.inn(i, 2 * (i < 6 ? i : i - 3), 0, 0));
        }
        due("six of nine, each for 999", x.plan(9999, 0), 63);
        due("six of nine", x.plan(9999, 1), 5994);
        due("six of nine", x.plan(5994, 2), 21);
        due("five of them", x.plan(5993, 0), 62);
        due("one of them", x.plan(1000, 0), 32);
        for (int i = 3; i < 6; i++) {
            x.gone(i);
        }
        due("the last three", x.plan(9999, 0), 1 + 2 + 4 + 64 + 128 + 256);
        // Lamp u holds herd 0 back in HOUR u, lamp 8 herd 1: all nine are needed.
        x = by("a9(h=0&l=u|h=1&l=8);s99(1=1);b2(1=1)");
        herds(x, 20, 20);
        for (int i = 0; i < 9; i++) {
            x.inn(i, i == 8 ? 2 : 0, 0, 0);
        }
        due("all nine", x.plan(18, 0), 511);
        due("all nine", x.plan(18, 1), 18);
        due("all nine", x.plan(18, 2), 40);
        due("all nine", x.safe(0), 511);
        due("one coin less: the last one alone", x.plan(17, 0), 256);
        due("one coin less", x.plan(17, 2), 20);
    }

    private static void isLeft() {
        StarHerds x = ahead(20);
        inn(x, 0, 0);
        due("without it they sink at once", x.plan(0, 2), 0);
        due("with it none does in eight hours", x.plan(1, 2), 20);
        x.hours(7);
        herds(x, 20);
        due("HOUR 7: one hour is left", x.plan(1, 2), 20);
        due("HOUR 7", x.plan(0, 2), 0);
        x.herd(0, 0, 0, 20, 0, 0);
        x.ground(0, 1, 0);
        x.ground(0, 2, 1);
        due("a bog two hours off", x.plan(0, 2), 20);
        x.hours(7);
        x.herd(0, 0, 0, 20, 0, 0);
        due("HOUR 6: two hours are left", x.plan(0, 2), 0);
        due("HOUR 6", x.plan(1, 2), 20);
        // Through is living, too.
        x.herd(1, 6, 13, 5, 0, 0);
        due("through", x.plan(1, 2), 25);
        asks("plan", y -> y.plan(9999, 0));
    }

    private static void likeSets() {
        StarHerds x = ahead(20, 20, 40);
        inn(x, 0, 1);
        inn(x, 1, 1);
        due("one of two like ones", x.plan(3, 0), 1);
        inn(x, 0, 2);
        due("the cheaper of two", x.plan(3, 0), 2);
        due("the cheaper of two", x.plan(3, 1), 2);
        inn(x, 0, 1);
        inn(x, 2, 3);
        due("0 and 1 for 4, or 2 for 4: bits 3 are less than 4", x.plan(4, 0), 3);
        inn(x, 2, 2);
        due("2 for 3", x.plan(4, 0), 4);
        inn(x, 6, 0);
        due("6 in place of 0", x.plan(9, 0), 2 + 4 + 64);
        inn(x, 6, 1);
        due("0 and 6 for 2 each", x.plan(9, 0), 7);
        x = ahead(20);
        inn(x, 3, 0);
        due("one that saves none", x.plan(9, 0), 0);
        law(x, "a9(l=h);s99(1=1)");
        due("one that saves none, for nothing", x.plan(9, 0), 0);
        inn(x, 0, 0);
        due("one that saves, for nothing", x.plan(0, 0), 1);
    }

    private static void safe() {
        StarHerds x = ahead(20, 30);
        inn(x, 0, 4);
        due("one of them is lost anyway", x.safe(0), -2);
        due("one of them is lost anyway", x.safe(1), -2);
        inn(x, 1, 4);
        due("both", x.safe(0), 3);
        due("both", x.safe(1), 10);
        inn(x, 7, 4);
        due("1 and 7 for 5 each", x.safe(0), 3);
        inn(x, 7, 3);
        due("7 for 4", x.safe(0), 1 + 128);
        due("7 for 4", x.safe(1), 9);
        x.dog(7, 1);
        due("7 is lit", x.safe(0), 1);
        x.ground(0, 1, 0);
        due("none is needed", x.safe(0), 0);
        due("none is needed", x.safe(1), 0);
        x = ahead(1);
        due("one is lost", x.safe(0), -2);
        x.herd(0, 0, 0, 0, 0, 0);
        due("none is there to be lost", x.safe(0), 0);
        asks("safe", y -> y.safe(0));
        x = by("a9(l=h|l=h+3&l>5);s99(1=1);b999(1=1)");
        herds(x, 1, 1, 1, 1, 1, 1);
        for (int i = 0; i < 9; i++) {
            x.inn(i, 2 * (i < 6 ? i : i - 3), 0, 0);
        }
        due("the dearest", x.safe(1), 5994);
        due("the dearest", x.safe(0), 63);
    }

    private static void places() {
        StarHerds x = by("a9(1=1);s99(1=1)");
        for (int s = 0; s < 14; s++) {
            x.ground(s, 4, 1);
        }
        x.herd(0, 5, 3, 7, 0, 0);
        x.inn(0, 5, 3, 0);
        due("its own is one of them, and others ahead of it", x.place(0, 0), 2);
        due("living", x.place(0, 1), 7);
        // All others that could save are rocks: rows 0 to 3 but 5, 3 itself, so none is led off.
        x = by("a9(1=1);s99(1=1)");
        for (int s = 0; s < 14; s++) {
            x.ground(s, 4, 1);
            for (int y = 0; y < 4; y++) {
                if (s != 5 || y != 3) {
                    x.ground(s, y, 3);
                }
            }
        }
        x.herd(0, 5, 3, 7, 0, 0);
        x.inn(0, 5, 3, 0);
        due("no rock: its own", x.place(0, 0), square(5, 3));
        due("living", x.place(0, 1), 7);
        x.inn(0, 13, 13, 0);
        due("from elsewhere to there", x.place(0, 0), square(5, 3));
        due("it is lit there, though it is not now", x.lit(0), 0);
        due("nothing is changed", x.lampIs(0, 0), 195);
        x.dog(0, 1);
        due("an inn that is lit", x.place(0, 0), square(5, 3));
        due("not there", x.place(1, 0), -1);
        asks("place", y -> y.place(8, 0));
        asks("place's living", y -> y.place(0, 1));
    }

    /** A herd that is saved by a lamp at its own square alone, with a bog below it, in the night's last hour. */
    private static int placeFor(int herdX, int herdY, int what) {
        StarHerds x = by("a9(d<1);s99(1=1)");
        x.hours(7);
        x.ground(herdX, herdY + 1, 1);
        x.herd(0, herdX, herdY, 9, 0, 0);
        x.inn(8, 5, 5, 0);
        return x.place(8, what);
    }

    private static void lowest() {
        due("the first square alone", placeFor(0, 0, 0), 0);
        due("the first square alone", placeFor(0, 0, 1), 9);
        due("the last one of row 0", placeFor(13, 0, 0), 13);
        due("the first one of row 1", placeFor(0, 1, 0), 14);
        due("above the last square", placeFor(13, 12, 0), 181);
        due("above the last square", placeFor(13, 12, 1), 9);
        StarHerds x = by("a9(d<1);s99(1=1)");
        x.inn(0, 13, 13, 0);
        due("without herds the first square", x.place(0, 0), 0);
        due("without herds", x.place(0, 1), 0);
        for (int s = 0; s < 194; s++) {
            x.ground(s % 14, s / 14, 3);
        }
        due("all but the last two are rocks", x.place(0, 0), 194);
        x.ground(12, 13, 3);
        due("all but the last are rocks", x.place(0, 0), 195);
        // Two herds, one of which can be saved: the greater one; of like ones by the lowest square.
        x = by("a9(d<1);s99(1=1)");
        x.inn(0, 13, 13, 0);
        x.ground(3, 6, 1);
        x.ground(9, 4, 1);
        x.herd(0, 3, 5, 8, 0, 0);
        x.herd(1, 9, 3, 7, 0, 0);
        due("of 8 and 7", x.place(0, 0), square(3, 5));
        due("of 8 and 7", x.place(0, 1), 8);
        x.herd(1, 9, 3, 8, 0, 0);
        due("of 8 and 8", x.place(0, 0), square(9, 3));
        x.herd(1, 9, 3, 9, 0, 0);
        due("of 8 and 9", x.place(0, 1), 9);
        x.hours(7);
        x.herd(0, 3, 4, 8, 0, 0);
        due("the bog is two hours off, the night one", x.place(0, 0), 0);
    }

    private static void oneToFive() {
        within("coins", 0, 9999, v -> x -> x.prices(2, 4, v, 0), -3);
        StarHerds x = ahead(20, 30);
        inn(x, 0, 0);
        inn(x, 1, 0);
        due("all can be paid: 5 and 5", x.prices(0, 1, 10, 0), 1);
        due("the first", x.prices(0, 1, 10, 1), 5);
        due("the other", x.prices(0, 1, 10, 2), 5);
        due("with all coins", x.prices(0, 1, 9999, 1), 5);
        due("without coins none gains: all 25", x.prices(0, 1, 0, 0), 25);
        due("the first of 25", x.prices(0, 1, 0, 1), 1);
        due("the first of 25", x.prices(0, 1, 0, 2), 1);
        // With one coin the inn of the herd of 30 is taken for 1, whatever the other asks.
        due("one coin", x.prices(0, 1, 1, 0), 5);
        due("one coin", x.prices(0, 1, 1, 1), 1);
        due("one coin", x.prices(0, 1, 1, 2), 1);
        // Others by b: inn 2 saves 40 for 4, so of 9 coins 5 are left.
        herds(x, 20, 30, 40);
        inn(x, 2, 3);
        due("5 are left: the inn of the herd of 30 takes all 5", x.prices(0, 1, 9, 0), 5);
        due("5 are left", x.prices(0, 1, 9, 1), 1);
        due("5 are left", x.prices(0, 1, 9, 2), 5);
        x.dog(2, 1);
        due("inn 2 is lit: 9 are there", x.prices(0, 1, 9, 1), 4);
        due("inn 2 is lit: 9 are there", x.prices(0, 1, 9, 2), 5);
        due("its own b is not asked", x.price(0), 1);
    }

    private static void rest() {
        StarHerds x = ahead(20, 30);
        inn(x, 0, 4);
        inn(x, 1, 4);
        // By 9 coins at 5 and 5 the herd of 30 is saved alone; so the other asks 4.
        due("9 coins", x.prices(0, 1, 9, 0), 1);
        due("9 coins", x.prices(0, 1, 9, 1), 4);
        due("9 coins", x.prices(0, 1, 9, 2), 5);
        herds(x, 30, 20);
        due("the other way round", x.prices(0, 1, 9, 1), 5);
        due("the other way round", x.prices(0, 1, 9, 2), 4);
        herds(x, 30, 30);
        due("like ones: the least set at 5 and 5", x.prices(0, 1, 9, 1), 5);
        due("like ones: the least set at 5 and 5", x.prices(0, 1, 9, 2), 4);
        x.ground(2, 1, 0);
        due("one that saves none gains none: any price", x.prices(0, 1, 9, 0), 5);
        due("the first of them", x.prices(0, 1, 9, 1), 5);
        due("the first of them", x.prices(0, 1, 9, 2), 1);
        // Two that save the same herd: the cheaper one is taken, so each goes down to 1.
        x = ahead(20);
        inn(x, 0, 4);
        inn(x, 6, 4);
        due("the same herd", x.prices(0, 6, 9, 0), 1);
        due("the same herd", x.prices(0, 6, 9, 1), 1);
        due("the same herd", x.prices(0, 6, 9, 2), 1);
        // Whatever two ask here, one of them gains more by another price.
        x = ahead(30, 25, 20, 15);
        inn(x, 0, 4);
        inn(x, 1, 4);
        inn(x, 2, 0);
        inn(x, 3, 2);
        due("none rests", x.prices(0, 1, 6, 0), 0);
        due("none rests", x.prices(0, 1, 6, 1), -2);
        due("none rests", x.prices(0, 1, 6, 2), -2);
        asks("prices", y -> y.prices(2, 4, 9, 0));
        asks("prices, the first", y -> y.prices(4, 2, 9, 1));
    }

    private static void firstTwo() {
        StarHerds x = ahead(20, 30);
        inn(x, 0, 4);
        inn(x, 1, 4);
        due("the first one's price first", x.prices(1, 0, 9, 1), 5);
        due("the first one's price first", x.prices(1, 0, 9, 2), 4);
        x.ground(2, 1, 0);
        due("inn 1 gains none: its lowest price, if it is the second", x.prices(0, 1, 9, 2), 1);
        due("and if it is the first", x.prices(1, 0, 9, 1), 1);
        due("with the other's 5", x.prices(1, 0, 9, 2), 5);
        due("five of them", x.prices(1, 0, 9, 0), 5);
    }

    /** Bytes and who lit by them; the tape is empty ahead of them. */
    private static int lit(StarHerds x, int n, int what, int... bytes) {
        x.check(0);
        feed(x, bytes);
        int answer = x.whoLit(n, what);
        due("the tape behind it", x.count(4), 0);
        return answer;
    }

    private static void notOn() {
        StarHerds x = by("a9(1=1);s99(1=1)");
        x.herd(0, 0, 13, 9, 0, 0);
        x.herd(2, 4, 0, 9, 0, 0);
        x.herd(3, 8, 0, 0, 0, 0);
        x.herd(5, 12, 0, 9, 0, 0);
        x.ground(12, 1, 1);
        due("through, on, sunk: by numbers", lit(x, 1, 0, 255, 18, 255), 1);
        due("the set of none", lit(x, 1, 1, 255, 18, 255), 0);
        due("196 is not 255", lit(x, 1, 0, 196, 18, 255), 0);
        due("its square is not 255", lit(x, 1, 0, 255, 18, 26), 0);
        due("254 is not 255", lit(x, 1, 0, 254, 18, 255), 0);
        due("another order", lit(x, 1, 0, 18, 255, 255), 0);
        due("bytes behind the third are not read", lit(x, 1, 0, 255, 18, 255, 7), 1);
        due("255 of one that is on", lit(x, 1, 0, 255, 255, 255), 0);
        for (int h = 0; h < 6; h++) {
            x.herd(h, 2 * h, 0, 9, 0, 0);
        }
        x.ground(12, 1, 0);
        due("six herds", lit(x, 1, 0, 14, 16, 18, 20, 22, 24), 1);
        due("the sixth byte is read", lit(x, 1, 0, 14, 16, 18, 20, 22, 25), 0);
        due("the first byte is read", lit(x, 1, 0, 15, 16, 18, 20, 22, 24), 0);
        stays("none is on", y -> {
            for (int h = 0; h < 6; h++) {
                y.herd(h, 5, 5, 0, 0, 0);
            }
        }, y -> y.whoLit(1, 0), -1);
        Consumer<StarHerds> noTape = y -> y.check(0);
        stays("no tape", noTape, y -> y.whoLit(1, 0), -1);
        // Three herds are on; the tape has 20 bytes, or none.
        due("on", Integer.bitCount(rich().count(7)), 3);
        empties("as many as it has", y -> { }, y -> y.whoLit(1, 0), 0);
    }

    private static void notBeyond() {
        StarHerds x = by("a9(1=1)");
        x.herd(0, 0, 0, 9, 0, 0);
        due("0", noneOf(x, 0), -1);
        due("9", noneOf(x, 9), -1);
        due("8 in HOUR 0", lit(x, 8, 0, square(0, 8)), 1);
        due("1 in HOUR 0", lit(x, 1, 0, square(0, 1)), 1);
        x.hour(0);
        due("8 in HOUR 1", noneOf(x, 8), -1);
        due("7 in HOUR 1", lit(x, 7, 0, square(0, 8)), 1);
        x.hours(6);
        due("2 in HOUR 7", noneOf(x, 2), -1);
        due("1 in HOUR 7", lit(x, 1, 0, square(0, 8)), 1);
        x.hour(0);
        x.hours(5);
        due("4 in HOUR 5", noneOf(x, 4), -1);
        due("3 in HOUR 5", lit(x, 3, 0, 255), 1);
        due("the highest int", noneOf(x, HIGHEST), -1);
        due("the lowest int", noneOf(x, LOWEST), -1);
    }

    /** Of an n that is refused: the tape stays. */
    private static int noneOf(StarHerds x, int n) {
        x.check(0);
        feed(x, 1);
        int answer = x.whoLit(n, 0);
        due("the tape stays", x.count(4), 20);
        return answer;
    }

    private static void unknown() {
        // Herd 0 stays by a lamp at its square, else it goes on; of which lamp, tells the law.
        StarHerds x = by("a9(l=8)");
        x.herd(0, 5, 5, 9, 0, 0);
        for (int i = 4; i < 9; i++) {
            x.inn(i, 5, 5, 0);
        }
        due("inn 8 is the fifth", lit(x, 1, 0, square(5, 5)), 16);
        due("inn 8 is the fifth", lit(x, 1, 2, square(5, 5)), 256);
        x.inn(0, 5, 5, 0);
        due("inn 8 is the sixth", lit(x, 1, 0, square(5, 5)), 0);
        due("inn 8 is the sixth: 32 sets without it", lit(x, 1, 0, square(5, 6)), 32);
        x.dog(0, 1);
        due("inn 0 is lit: inn 8 is the fifth", lit(x, 1, 0, square(5, 5)), 16);
        due("inn 0 is lit: no set has it", lit(x, 1, 1, square(5, 5)), 256);
        x.dog(8, 1);
        due("inn 8 is lit", lit(x, 1, 0, square(5, 5)), 16);
        due("inn 8 is lit: it is not unknown", lit(x, 1, 1, square(5, 5)), 0);
        x.stray(9, 0, 0, 0, false);
        due("a stray one that is not lit", lit(x, 1, 0, square(5, 5)), 32);
        x.stray(10, 0, 0, 0, true);
        x.stray(11, 0, 0, 0, true);
        due("all three", lit(x, 1, 0, square(5, 5)), 128);
        x.dog(8, 0);
        x.dog(0, 0);
        x.gone(4);
        due("five inns and three stray ones", lit(x, 1, 0, square(5, 5)), 128);
        due("the first", lit(x, 1, 1, square(5, 5)), 256);
        law(x, "a9(1=2)");
        due("all of 256", lit(x, 1, 0, square(5, 6)), 256);
        x.gone(10);
        due("one is gone", lit(x, 1, 0, square(5, 6)), 128);
    }

    private static void sets() {
        StarHerds x = by("a9(l=9)");
        x.herd(0, 5, 5, 9, 0, 0);
        x.stray(9, 5, 5, 0, true);
        due("it is lit, but not in the set of none", lit(x, 1, 0, square(5, 6)), 1);
        due("the set of none", lit(x, 1, 1, square(5, 6)), 0);
        due("the set with it", lit(x, 1, 1, square(5, 5)), 512);
        due("lit as before", x.lit(9), 1);
        x.stray(9, 5, 5, 0, false);
        due("it is not lit, but in the set", lit(x, 1, 1, square(5, 5)), 512);
        due("not lit as before", x.lit(9), 0);
        due("none comes there", lit(x, 1, 0, square(5, 7)), 0);
        due("none comes there", lit(x, 1, 1, square(5, 7)), -2);
        due("none comes there", lit(x, 1, 2, square(5, 7)), -2);
        x.gone(9);
        due("no lamps at all", lit(x, 1, 0, square(5, 6)), 1);
        due("no lamps at all", lit(x, 1, 0, square(5, 5)), 0);
    }

    private static void inAll() {
        StarHerds x = by("a9(l=1|l=3)");
        x.herd(0, 5, 5, 9, 0, 0);
        for (int i = 0; i < 4; i++) {
            x.inn(i, 5, 5, 0);
        }
        due("1 or 3 of four", lit(x, 1, 0, square(5, 5)), 12);
        due("the first", lit(x, 1, 1, square(5, 5)), 2);
        due("neither is in all", lit(x, 1, 2, square(5, 5)), 0);
        law(x, "a9(l=3)");
        due("3 in all", lit(x, 1, 2, square(5, 5)), 8);
        due("the first", lit(x, 1, 1, square(5, 5)), 8);
        due("without 3 the first is of none", lit(x, 1, 1, square(5, 6)), 0);
        x.gone(1);
        x.gone(2);
        due("with 0 or not", lit(x, 1, 0, square(5, 5)), 2);
        due("3 alone is in both", lit(x, 1, 2, square(5, 5)), 8);
        x.gone(0);
        due("one set", lit(x, 1, 0, square(5, 5)), 1);
        due("all of it", lit(x, 1, 2, square(5, 5)), 8);
        for (int i = 0; i < 4; i++) {
            x.inn(i, 5, 5, 0);
        }
        law(x, "a9(l=h+1)");
        x.herd(1, 8, 5, 9, 0, 0);
        x.inn(2, 8, 5, 0);
        due("1 and 2 in all", lit(x, 1, 2, square(5, 5), square(8, 5)), 6);
        due("0 and 3 are in some", lit(x, 1, 0, square(5, 5), square(8, 5)), 4);
    }

    private static void toldSquare() {
        within("a square", 0, 195, v -> x -> x.where(0, 1, v, 0), -1);
        stays("not told", x -> x.where(4, 1, 0, 0), -1);
        stays("through", x -> x.where(2, 1, 0, 0), -1);
        stays("without cattle", x -> x.where(3, 1, 0, 0), -1);
        stays("no herd", x -> x.where(6, 1, 0, 0), -1);
        stays("no herd", x -> x.where(-1, 1, 0, 0), -1);
        within("hours, in HOUR 4", 1, 4, v -> x -> x.where(0, v, 0, 0), -1);
        StarHerds x = by("a9(l=9)");
        x.herd(0, 5, 5, 9, 0, 0);
        due("the last square", x.where(0, 1, 195, 0), 1);
        due("from above it", x.where(0, 1, 195, 1), 181);
        due("the first square", x.where(0, 1, 0, 0), 0);
        due("eight hours", x.where(0, 8, square(5, 8), 1), square(5, 0));
        due("eight hours", x.where(0, 8, square(5, 7), 0), 0);
        due("none", x.where(0, 8, square(5, 7), 1), -2);
        x.stray(9, 0, 0, 0, true);
        due("a lamp at the first square", x.where(0, 1, 0, 0), 3);
        due("the first of three", x.where(0, 1, 0, 1), 0);
        x.gone(9);
        x.hour(0);
        due("8 in HOUR 1", x.where(0, 8, 0, 0), -1);
        due("7 in HOUR 1", x.where(0, 7, square(5, 8), 0), 1);
    }

    private static void from() {
        StarHerds x = by("a9(1=1)");
        x.herd(0, 5, 5, 9, 0, 0);
        x.stray(9, 5, 5, 0, true);
        due("five squares", x.where(0, 1, square(5, 5), 0), 5);
        due("the first", x.where(0, 1, square(5, 5), 1), square(5, 4));
        x.ground(5, 4, 3);
        due("without a rock", x.where(0, 1, square(5, 5), 0), 4);
        due("the first", x.where(0, 1, square(5, 5), 1), square(4, 5));
        x.stray(9, 5, 5, 0, false);
        due("behind the rock", x.where(0, 1, square(5, 5), 0), 0);
        due("before the rock", x.where(0, 1, square(5, 3), 0), 2);
        due("before the rock", x.where(0, 1, square(5, 3), 1), square(5, 2));
        // All else as it is: its cattle, fear and fire, the draw that comes (2), the others.
        x = by("z3(1=1);a9(1=1)");
        x.herd(1, 5, 5, 9, 0, 50);
        due("by draw 2 it runs", x.where(1, 1, square(5, 5), 1), square(5, 7));
        due("by draw 2 it runs", x.where(1, 1, square(5, 5), 0), 1);
        due("to the edge from three squares", x.where(1, 1, square(5, 0), 0), 3);
        x.fire(1, true);
        x.herd(0, 5, 5, 9, 0, 0);
        due("herd 0 goes ahead of it and by its horns", x.where(1, 1, square(5, 3), 1), square(5, 5));
        due("nothing is changed", x.herdIs(1, 0), square(5, 5));
        asks("where", y -> y.where(0, 2, 58, 0));
        asks("where, the first", y -> y.where(0, 2, 58, 1));
    }

    private static void odds() {
        within("hours", 1, 3, v -> x -> x.odds(v, 5, 0), -1);
        within("living", 0, 9999, v -> x -> x.odds(1, v, 0), -1);
        StarHerds x = by("sr(1=1)");
        for (int y = 1; y < 4; y++) {
            x.ground(0, y, 1);
        }
        x.herd(0, 0, 0, 100, 0, 0);
        int[] above = {1, 9, 4, 7, 3, 1, 2, 3, 1, 1};
        int[] below = {1, 10, 5, 10, 5, 2, 5, 10, 5, 10};
        for (int k = 0; k < 10; k++) {
            due("at least " + (91 + k), x.odds(1, 91 + k, 0), above[k]);
            due("at least " + (91 + k), x.odds(1, 91 + k, 1), below[k]);
        }
        due("as many as there are and one", x.odds(1, 101, 0), 0);
        due("as many as there are and one", x.odds(1, 101, 1), 1);
        due("100 of two draws: 0 and 0", x.odds(2, 100, 1), 100);
        due("100 of three draws", x.odds(3, 100, 0), 1);
        due("100 of three draws", x.odds(3, 100, 1), 1000);
        due("82 of two draws: all", x.odds(2, 82, 1), 1);
        due("83 of two draws: all but 9 and 9", x.odds(2, 83, 0), 99);
        due("74 of three draws: all but three nines", x.odds(3, 74, 0), 999);
        due("73 of three draws", x.odds(3, 73, 0), 1);
        due("0", x.odds(3, 0, 0), 1);
        due("0", x.odds(3, 0, 1), 1);
        due("9999", x.odds(3, 9999, 0), 0);
        due("9999", x.odds(3, 9999, 1), 1);
        x.hours(7);
        x.herd(0, 0, 0, 100, 0, 0);
        due("beyond the night", x.odds(3, 100, 1), 1000);
        asks("odds", y -> y.odds(3, 90, 0));
        asks("odds below the line", y -> y.odds(3, 90, 1));
    }

    private static void clouded() {
        // The draws from 1 on are 2 7 6 5 2 9 6 7.
        StarHerds x = by("q6(1=1)");
        due("from HOUR 0 on: eight draws", x.clouded(), 1 + 8 + 16);
        due("X behind eight", x.count(5), 19417);
        x = by("q6(1=1)");
        x.hour(0);
        x.hour(0);
        x.hour(0);
        due("from HOUR 3 on: five draws", x.clouded(), 8 + 64 + 128);
        due("X behind five", x.count(5), 3882);
        x = by("q10(1=1)");
        x.hours(7);
        x.seed(1);
        due("HOUR 7: one draw", x.clouded(), 128);
        due("X behind one", x.count(5), 39022);
        x.clouds(255);
        law(x, "q0(1=1)");
        due("hours that are over stay, this one is cleared", x.clouded(), 127);
        x = by("qu(1=1)");
        due("asked for that hour: 2 7 6 5 2 9 6 7 and 0 to 7", x.clouded(), 16);
        x = by("qu+1(v=0)");
        due("2 7 6 5 2 9 6 7 and 1 to 8", x.clouded(), 16 + 64 + 128);
        x.hours(8);
        due("asked in that night", x.clouded(), 0);
    }

    private static void keptBehind(String what, Consumer<StarHerds> change) {
        alike(what + " alone, undone", y -> y.keep(), y -> {
            change.accept(y);
            return bit(y.undo());
        }, 1, y -> { });
    }

    private static void kept() {
        keptBehind("SORTS", y -> y.ground(0, 0, 2));
        keptBehind("LAMPS: an inn", y -> y.inn(0, 0, 0, 4));
        keptBehind("LAMPS: a new inn", y -> y.inn(7, 0, 0, 4));
        keptBehind("LAMPS: a stray one", y -> y.stray(9, 0, 0, 4, false));
        keptBehind("LAMPS: gone", y -> y.gone(8));
        keptBehind("LAMPS: a dog", y -> y.dog(8, 50));
        keptBehind("LAMPS, DROVERS: paid", y -> y.pay(3, 8, 9));
        keptBehind("HERDS: told anew", y -> y.herd(2, 0, 0, 1, 2, 3));
        keptBehind("HERDS: one more", y -> y.herd(4, 0, 0, 1, 2, 3));
        keptBehind("HERDS: fire", y -> y.fire(0, true));
        keptBehind("DROVERS", y -> y.drover(2, 77));
        keptBehind("an hour", y -> y.hour(3));
        keptBehind("THE NIGHT, HOUR, X", y -> y.hours(24));
        keptBehind("CLOUDS", y -> y.clouds(1));
        keptBehind("CLOUDS and X", y -> y.clouded());
        keptBehind("X", y -> y.seed(9));
        keptBehind("LED", y -> {
            y.ground(0, 1, 1);
            y.herd(0, 0, 0, 9, 0, 0);
            y.hour(0);
        });
        alike("the law and the tape are not kept", y -> y.keep(), y -> {
            law(y, "b3(1=1)");
            y.feed(1, 2, 3, 4, 5);
            return bit(y.undo());
        }, 1, y -> {
            law(y, "b3(1=1)");
            y.feed(1, 2, 3, 4, 5);
        });
        StarHerds x = new StarHerds();
        no("none was kept", x.undo());
        x.drover(0, 1);
        due("kept", x.keep(), 0);
        x.drover(0, 2);
        x.keep();
        x.drover(0, 3);
        yes("undone", x.undo());
        due("as kept last", x.count(10), 2);
        x.drover(0, 4);
        yes("undone again", x.undo());
        due("as kept last", x.count(10), 2);
    }

    private static int checked(StarHerds x, int n, int... numbers) {
        x.check(0);
        int[] twelve = new int[12];
        System.arraycopy(numbers, 0, twelve, 0, numbers.length);
        x.feed(twelve[0], twelve[1], twelve[2], twelve[3], twelve[4]);
        x.feed(twelve[5], twelve[6], twelve[7], twelve[8], twelve[9]);
        int answer = x.check(n);
        due("the tape behind it", x.count(4), answer == -2 ? 40 : 0);
        return answer;
    }

    private static void check() {
        StarHerds x = new StarHerds();
        int[] cattle = {1, 255, 256, 999, 0};
        for (int h = 0; h < 5; h++) {
            x.herd(h, 5, 5, cattle[h], 0, 0);
        }
        due("all six, the last not told", checked(x, 6, 1, 255, 256, 999, 0, 0), -1);
        due("the seventh is not read", checked(x, 6, 1, 255, 256, 999, 0, 0, 7), -1);
        for (int h = 0; h < 6; h++) {
            int[] numbers = {1, 255, 256, 999, 0, 0};
            numbers[h]++;
            due("one more at " + h, checked(x, 6, numbers), h);
            due("one more at " + h + ", not read", checked(x, h, numbers), -1);
            due("one more at " + h + ", read last", checked(x, h + 1, numbers), h);
        }
        due("the first of two", checked(x, 6, 1, 255, 0, 999, 1, 0), 2);
        due("none is read", checked(x, 0, 9, 9), -1);
        due("each byte: the highest", checked(x, 1, 1 + (1 << 24)), 0);
        due("each byte: the next", checked(x, 1, 1 + (1 << 16)), 0);
        due("each byte: the third", checked(x, 1, 1 + (1 << 8)), 0);
        due("each byte: the highest bit", checked(x, 1, 1 + (1 << 31)), 0);
        due("below 0", checked(x, 1, -1), 0);
        due("seven", checked(x, 7), -2);
        due("-1", checked(x, -1), -2);
        due("the highest int", checked(x, HIGHEST), -2);
        due("the lowest int", checked(x, LOWEST), -2);
        x.check(0);
        x.feed(1, 255, 256, 999, 0);
        due("24 of 20 bytes", x.check(6), -2);
        due("the tape stays", x.count(4), 20);
        due("20 of 20 bytes", x.check(5), -1);
        due("an empty tape", x.check(1), -2);
        due("nothing of an empty tape", x.check(0), -1);
        x.herd(0, 5, 13, 7, 0, 0);
        x.hour(0);
        due("through, too", checked(x, 1, 7), -1);
    }

    private static void lastCall() {
        StarHerds x = new StarHerds();
        feed(x, "a9(1=1)".chars().toArray());
        due("call 2", x.law(7), 1);
        yes("call 3", x.herd(0, 5, 5, 9, 0, 0));
        yes("call 4", x.stray(9, 5, 9, 0, true));
        for (int call = 5; call < 512; call++) {
            if (call % 2 == 0) {
                due("call " + call, x.tried(1, 20), square(5, 6));
            } else {
                due("call " + call, x.odds(1, 9, 0), 1);
            }
        }
        due("call 512", x.hours(4), 0);
    }
}
