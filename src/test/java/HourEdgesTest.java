/** The edges of an hour: targets, steps, stampedes, bogs and wells, thirst and fear. */
public final class HourEdgesTest extends Edges {
    public static void main(String[] args) throws Exception {
        open();
        edge("AN HOUR with a DRAW (0 to 9), HERDS that are ON one behind the other by numbers", HourEdgesTest::order);
        edge("(1) TARGET: of LIT LAMPS (not its own horns)", HourEdgesTest::litLamps);
        edge("within 6 of THE WAY (3 by CLOUDS)", HourEdgesTest::sight);
        edge("the one that pulls most, if that is above 0", HourEdgesTest::pullsMost);
        edge("of like ones the lowest. (2)", HourEdgesTest::likeOnes);
        edge("If FEAR is 50 or more and the DRAW is below z, it stampedes", HourEdgesTest::frights);
        edge("twice one SQUARE in DIRECTION DRAW modulo 4 (0 y + 1, 1 x + 1, 2 y - 1, 3 x - 1)", HourEdgesTest::directions);
        edge("as far as that is in the plain and no rock", HourEdgesTest::asFar);
        edge("its TARGET is none then", HourEdgesTest::noTarget);
        edge("it stays, if it is there", HourEdgesTest::isThere);
        edge("it goes one SQUARE by the greater difference (of like ones by x) towards it, if that is no rock",
            HourEdgesTest::greater);
        edge("by the other one, if there is one and that is no rock; else it stays", HourEdgesTest::other);
        edge("Without a TARGET: one SQUARE by y + 1, if that is no rock; from y 13 it is THROUGH", HourEdgesTest::through);
        edge("Then, if it is still ON behind (2)", HourEdgesTest::stillOn);
        edge("(3) on a bog s of it sink (as many as there are)", HourEdgesTest::sink);
        edge("on a well its THIRST is 0, else w more (99 at most)", HourEdgesTest::wells);
        edge("(4) If THIRST is 99, x die (as many as there are)", HourEdgesTest::die);
        edge("(5) FEAR f more (0 to 99)", HourEdgesTest::fear);
        edge("(all three, also if none is left by (3))", HourEdgesTest::noneLeft);
        edge("LED to the TARGET of this HOUR (none: to nobody)", HourEdgesTest::led);
        end("HourEdgesTest");
    }

    /** Where a herd of 9 comes from a square in an hour by a draw. */
    private static int from(StarHerds x, int atX, int atY, int fear, int draw) {
        x.herd(0, atX, atY, 9, 0, fear);
        x.hour(draw);
        return x.herdIs(0, 0);
    }

    private static int square(int x, int y) {
        return 14 * y + x;
    }

    private static void order() {
        within("a draw", 0, 9, v -> x -> x.hour(v), -1);
        // Herd 1 stands on herd 0's way and herd 0 goes ahead: by number, not by place.
        StarHerds x = by("a9(l>11)");
        x.herd(0, 5, 5, 9, 0, 0);
        x.herd(1, 8, 5, 9, 0, 0);
        x.fire(0, true);
        x.hour(0);
        due("herd 0 saw no horns", x.herdIs(0, 0), square(5, 6));
        due("herd 1 saw them where they were by then: x and y", x.herdIs(1, 0), square(7, 5));
        x.herd(0, 5, 5, 9, 0, 0);
        x.herd(1, 6, 5, 9, 0, 0);
        x.fire(0, true);
        x.hour(0);
        due("at 5, 6 by then: x of like ones", x.herdIs(1, 0), square(5, 5));
        x.herd(0, 5, 5, 9, 0, 0);
        x.herd(1, 5, 6, 9, 0, 0);
        x.fire(0, true);
        x.hour(0);
        due("by then it was there", x.herdIs(1, 0), square(5, 6));
        x.herd(0, 5, 5, 9, 0, 0);
        x.herd(1, 5, 4, 9, 0, 0);
        x.fire(1, true);
        x.hour(0);
        due("herd 0 by horns that did not yet go", x.herdIs(0, 0), square(5, 4));
        due("the other one without a target", x.herdIs(1, 0), square(5, 5));
        x.herd(0, 5, 5, 0, 0, 0);
        x.hour(0);
        due("one that is not on stays", x.herdIs(0, 0), square(5, 5));
    }

    private static void litLamps() {
        StarHerds x = by("a9(1=1)");
        x.herd(0, 5, 5, 9, 0, 0);
        x.fire(0, true);
        due("its own horns", x.target(0), -2);
        x.inn(0, 5, 6, 0);
        due("an inn that is not lit", x.target(0), -2);
        x.dog(0, 1);
        due("one that is", x.target(0), 0);
        x.gone(0);
        due("one that is gone", x.target(0), -2);
        x.stray(11, 5, 6, 0, false);
        due("a stray one that is not lit", x.target(0), -2);
        x.stray(11, 5, 6, 0, true);
        due("one that is", x.target(0), 11);
        x.gone(11);
        x.herd(5, 5, 6, 9, 0, 0);
        due("horns without fire", x.target(0), -2);
        x.fire(5, true);
        due("horns on fire", x.target(0), 17);
        x.herd(5, 5, 6, 0, 0, 0);
        x.fire(5, true);
        due("horns on fire of none", x.target(0), -2);
        x.herd(5, 5, 13, 9, 0, 0);
        x.fire(5, true);
        x.herd(0, 5, 12, 9, 0, 0);
        x.gone(11);
        x.hour(0);
        due("herd 0 went towards the horns", x.herdIs(0, 0), square(5, 13));
        due("herd 5 is through", x.herdIs(5, 0), 196);
        due("horns of a herd that is through", x.target(0), -2);
    }

    private static void sight() {
        StarHerds x = by("a9(1=1)");
        int[][] ways = {{6, 0}, {0, 6}, {3, 3}, {-6, 0}, {0, -6}, {-2, 4}, {5, -1}};
        for (int[] w : ways) {
            x.clouds(0);
            x.herd(0, 6, 6, 9, 0, 0);
            x.stray(9, 6 + w[0], 6 + w[1], 0, true);
            due("6", x.target(0), 9);
            x.clouds(1);
            due("6 by clouds", x.target(0), -2);
        }
        int[][] beyond = {{7, 0}, {0, 7}, {4, 3}, {-6, 1}, {-1, -6}, {6, 6}};
        for (int[] w : beyond) {
            x.clouds(0);
            x.stray(9, 6 + w[0], 6 + w[1], 0, true);
            due("7 or more", x.target(0), -2);
        }
        x.clouds(1);
        int[][] near = {{3, 0}, {0, -3}, {2, 1}, {-1, 2}, {0, 0}};
        for (int[] w : near) {
            x.stray(9, 6 + w[0], 6 + w[1], 0, true);
            due("3 by clouds", x.target(0), 9);
        }
        int[][] off = {{4, 0}, {0, -4}, {2, 2}, {-3, 1}};
        for (int[] w : off) {
            x.clouds(1);
            x.stray(9, 6 + w[0], 6 + w[1], 0, true);
            due("4 by clouds", x.target(0), -2);
            x.clouds(254);
            due("4 by clouds in other hours", x.target(0), 9);
        }
    }

    private static void pullsMost() {
        StarHerds x = by("ak-1(l=9);a3(l=10);ak(l=11)");
        x.herd(0, 5, 5, 9, 0, 0);
        x.stray(9, 5, 6, 1, true);
        due("0", x.target(0), -2);
        x.stray(9, 5, 6, 0, true);
        due("-1", x.target(0), -2);
        x.stray(9, 5, 6, 2, true);
        due("1", x.target(0), 9);
        x.stray(11, 5, 6, 2, true);
        due("2", x.target(0), 11);
        x.stray(10, 5, 7, 0, true);
        due("3", x.target(0), 10);
        x.stray(11, 5, 6, 4, true);
        due("4", x.target(0), 11);
        law(x, "a999(l=9);a9999(l>9)");
        due("999 and what is bound to it are alike", x.target(0), 9);
    }

    private static void likeOnes() {
        StarHerds x = by("a9(1=1)");
        x.herd(0, 5, 5, 9, 0, 0);
        x.herd(4, 5, 5, 9, 0, 0);
        x.fire(4, true);
        due("horns alone", x.target(0), 16);
        x.stray(11, 5, 9, 0, true);
        due("11 and 16", x.target(0), 11);
        x.stray(10, 5, 9, 0, true);
        due("10 and 11", x.target(0), 10);
        x.inn(8, 9, 5, 0);
        x.dog(8, 1);
        due("8 and 10", x.target(0), 8);
        x.inn(0, 9, 5, 0);
        x.dog(0, 1);
        due("0 and 8", x.target(0), 0);
        due("0 and 8 of the other herd", x.target(4), 0);
    }

    private static void frights() {
        StarHerds x = by("z5(1=1)");
        due("FEAR 50, DRAW 4", from(x, 5, 5, 50, 4), square(5, 7));
        due("FEAR 49, DRAW 4", from(x, 5, 5, 49, 4), square(5, 6));
        due("FEAR 50, DRAW 5", from(x, 5, 5, 50, 5), square(5, 6));
        due("FEAR 99, DRAW 5", from(x, 5, 5, 99, 5), square(5, 6));
        due("FEAR 99, DRAW 3", from(x, 5, 5, 99, 3), square(3, 5));
        law(x, "z10(1=1)");
        due("10, DRAW 9", from(x, 5, 5, 50, 9), square(7, 5));
        law(x, "z0(1=1)");
        due("0, DRAW 0", from(x, 5, 5, 99, 0), square(5, 6));
        law(x, "zr(1=1)");
        due("r, DRAW r", from(x, 5, 5, 99, 3), square(5, 6));
        law(x, "zr+1(1=1)");
        due("r + 1, DRAW r", from(x, 5, 5, 99, 3), square(3, 5));
        // FEAR 50 comes in the hour, by f: too late for it.
        law(x, "z10(1=1);f1(1=1)");
        due("49 and one more", from(x, 5, 5, 49, 3), square(5, 6));
        x.hour(3);
        due("50 in the next hour", x.herdIs(0, 0), square(3, 6));
    }

    private static void directions() {
        StarHerds x = by("z10(1=1)");
        int[] due = {square(6, 8), square(8, 6), square(6, 4), square(4, 6)};
        for (int draw = 0; draw < 10; draw++) {
            due("draw " + draw, from(x, 6, 6, 50, draw), due[draw % 4]);
        }
    }

    private static void asFar() {
        StarHerds x = by("z10(1=1)");
        due("y 11", from(x, 5, 11, 50, 0), square(5, 13));
        due("y 12", from(x, 5, 12, 50, 0), square(5, 13));
        due("y 13: not through", from(x, 5, 13, 50, 0), square(5, 13));
        due("x 11", from(x, 11, 5, 50, 1), square(13, 5));
        due("x 12", from(x, 12, 5, 50, 1), square(13, 5));
        due("x 13: not to the next row", from(x, 13, 5, 50, 1), square(13, 5));
        due("y 2", from(x, 5, 2, 50, 2), square(5, 0));
        due("y 1", from(x, 5, 1, 50, 2), square(5, 0));
        due("y 0", from(x, 5, 0, 50, 2), square(5, 0));
        due("x 2", from(x, 2, 5, 50, 3), square(0, 5));
        due("x 1", from(x, 1, 5, 50, 3), square(0, 5));
        due("x 0: not to the row before", from(x, 0, 5, 50, 3), square(0, 5));
        due("the last square", from(x, 13, 13, 50, 1), 195);
        due("the first square", from(x, 0, 0, 50, 3), 0);
        int[][] steps = {{0, 1}, {1, 0}, {0, -1}, {-1, 0}};
        for (int draw = 0; draw < 4; draw++) {
            int sx = steps[draw][0];
            int sy = steps[draw][1];
            x = by("z10(1=1)");
            x.ground(6 + 3 * sx, 6 + 3 * sy, 3);
            due("a rock behind two", from(x, 6, 6, 50, draw), square(6 + 2 * sx, 6 + 2 * sy));
            x.herd(0, 6, 6, 9, 0, 0);
            x.ground(6 + 2 * sx, 6 + 2 * sy, 3);
            due("a rock behind one", from(x, 6, 6, 50, draw), square(6 + sx, 6 + sy));
            x.herd(0, 6, 6, 9, 0, 0);
            x.ground(6 + 2 * sx, 6 + 2 * sy, 1);
            x.ground(6 + sx, 6 + sy, 3);
            due("a rock at once: not over it", from(x, 6, 6, 50, draw), square(6, 6));
        }
    }

    private static void noTarget() {
        StarHerds x = by("a9(1=1);z5(1=1);s2(1=1)");
        x.stray(9, 6, 9, 0, true);
        for (int y = 5; y < 12; y++) {
            x.ground(6, y, 1);
        }
        due("it runs past the lamp", from(x, 6, 8, 50, 4), square(6, 10));
        due("led to nobody", x.led(18), 2);
        due("not to the lamp", x.led(9), 0);
        due("by draw 5 it goes there", from(x, 6, 8, 50, 5), square(6, 9));
        due("led to the lamp", x.led(9), 2);
        due("no more to nobody", x.led(18), 2);
    }

    private static void isThere() {
        StarHerds x = by("a9(1=1);w5(1=1)");
        x.stray(9, 5, 5, 0, true);
        due("at the lamp", from(x, 5, 5, 0, 0), square(5, 5));
        due("its thirst grows there", x.herdIs(0, 2), 5);
        x.stray(9, 5, 13, 0, true);
        due("at the lamp in the last row", from(x, 5, 13, 0, 0), square(5, 13));
        due("it is on", x.herdIs(0, 5), 1);
        x.stray(9, 5, 13, 0, false);
        x.hour(0);
        due("when it is out: through", x.herdIs(0, 0), 196);
    }

    private static int towards(StarHerds x, int dx, int dy) {
        x.stray(9, 6 + dx, 6 + dy, 0, true);
        return from(x, 6, 6, 0, 0);
    }

    private static void greater() {
        StarHerds x = by("a9(1=1)");
        due("x one more than y", towards(x, 3, 2), square(7, 6));
        due("x one less than y", towards(x, 2, 3), square(6, 7));
        due("alike: x", towards(x, 3, 3), square(7, 6));
        due("alike, both below: x", towards(x, -3, -3), square(5, 6));
        due("alike, x below: x", towards(x, -1, 1), square(5, 6));
        due("alike, y below: x", towards(x, 1, -1), square(7, 6));
        due("x below, more", towards(x, -3, 2), square(5, 6));
        due("y below, more", towards(x, -2, -3), square(6, 5));
        due("x alone", towards(x, 1, 0), square(7, 6));
        due("x below alone", towards(x, -1, 0), square(5, 6));
        due("y alone", towards(x, 0, 1), square(6, 7));
        due("y below alone", towards(x, 0, -1), square(6, 5));
        x.ground(7, 6, 1);
        x.ground(6, 7, 2);
        due("a bog is no rock", towards(x, 3, 2), square(7, 6));
        due("a well is no rock", towards(x, 2, 3), square(6, 7));
    }

    private static void other() {
        StarHerds x = by("a9(1=1)");
        x.ground(7, 6, 3);
        due("a rock by x: by y", towards(x, 3, 1), square(6, 7));
        due("a rock by x: by y below", towards(x, 3, -1), square(6, 5));
        due("alike, a rock by x: by y", towards(x, 2, 2), square(6, 7));
        due("a rock by x, none by y: it stays", towards(x, 3, 0), square(6, 6));
        due("a rock by x, y is greater", towards(x, 1, 2), square(6, 7));
        x.herd(0, 0, 0, 9, 0, 0);
        yes("a rock", x.ground(6, 7, 3));
        due("a rock by both", towards(x, 3, 1), square(6, 6));
        due("a rock by both", towards(x, 1, 3), square(6, 6));
        due("a rock by y: by x below", towards(x, -1, 3), square(5, 6));
        due("a rock by y, none by x: it stays", towards(x, 0, 3), square(6, 6));
        x.ground(7, 6, 0);
        due("a rock by y: by x", towards(x, 1, 3), square(7, 6));
        due("nothing to the other side", towards(x, 0, 2), square(6, 6));
    }

    private static void through() {
        StarHerds x = new StarHerds();
        due("y 0", from(x, 5, 0, 0, 0), square(5, 1));
        due("y 12", from(x, 5, 12, 0, 0), square(5, 13));
        due("on in y 13", x.herdIs(0, 5), 1);
        due("y 13", from(x, 5, 13, 0, 0), 196);
        due("not on", x.herdIs(0, 5), 0);
        due("x 13 and y 13", from(x, 13, 13, 0, 0), 196);
        x.ground(5, 8, 3);
        due("a rock", from(x, 5, 7, 0, 0), square(5, 7));
        x.ground(5, 8, 1);
        due("a bog", from(x, 5, 7, 0, 0), square(5, 8));
        x.ground(5, 13, 3);
        due("a rock in the last row", from(x, 5, 12, 0, 0), square(5, 12));
    }

    private static void stillOn() {
        StarHerds x = by("s5(1=1);w5(1=1);x5(1=1);f5(1=1)");
        x.ground(5, 13, 1);
        x.herd(0, 5, 13, 9, 98, 7);
        due("through from a bog: none is lost", x.hour(0), 0);
        due("cattle", x.herdIs(0, 1), 9);
        due("thirst", x.herdIs(0, 2), 98);
        due("fear", x.herdIs(0, 3), 7);
        x.hours(24);
        due("through it stays as it is", x.herdIs(0, 1) + x.herdIs(0, 2) + x.herdIs(0, 3), 114);
        x.herd(0, 5, 12, 9, 98, 7);
        due("onto that bog: five sink, four die", x.hour(0), 9);
        due("fear", x.herdIs(0, 3), 12);
    }

    private static int sinkOf(int cattle) {
        StarHerds x = by("s7(1=1)");
        x.ground(5, 6, 1);
        x.herd(0, 5, 5, cattle, 0, 0);
        int lost = x.hour(0);
        due("left", x.herdIs(0, 1), cattle - lost);
        due("on", x.herdIs(0, 5), bit(cattle > lost));
        return lost;
    }

    private static void sink() {
        due("7 of 8", sinkOf(8), 7);
        due("7 of 7", sinkOf(7), 7);
        due("6 of 6", sinkOf(6), 6);
        due("1 of 1", sinkOf(1), 1);
        StarHerds x = by("s7(1=1)");
        x.ground(5, 6, 2);
        x.herd(0, 5, 5, 9, 0, 0);
        due("on a well none sinks", x.hour(0), 0);
        x.ground(5, 7, 0);
        due("on open ground none sinks", x.hour(0), 0);
        x.ground(5, 7, 1);
        x.ground(5, 8, 3);
        due("on a bog where it stays", x.hour(0), 7);
        due("again", x.hour(0), 2);
    }

    private static int thirst(int thirst, int sort) {
        StarHerds x = by("w7(1=1)");
        x.ground(5, 6, sort);
        x.herd(0, 5, 5, 9, thirst, 0);
        x.hour(0);
        return x.herdIs(0, 2);
    }

    private static void wells() {
        due("open", thirst(5, 0), 12);
        due("a bog", thirst(5, 1), 12);
        due("a well", thirst(5, 2), 0);
        due("a well at 99", thirst(99, 2), 0);
        due("91", thirst(91, 0), 98);
        due("92", thirst(92, 0), 99);
        due("93", thirst(93, 0), 99);
        due("99", thirst(99, 0), 99);
        due("a bog at 93", thirst(93, 1), 99);
    }

    private static int dieOf(int cattle, int thirst) {
        StarHerds x = by("w1(1=1);x7(1=1)");
        x.herd(0, 5, 5, cattle, thirst, 0);
        int lost = x.hour(0);
        due("left", x.herdIs(0, 1), cattle - lost);
        return lost;
    }

    private static void die() {
        due("97 and 1", dieOf(9, 97), 0);
        due("98 and 1", dieOf(9, 98), 7);
        due("99 and 1", dieOf(9, 99), 7);
        due("7 of 7", dieOf(7, 99), 7);
        due("6 of 6", dieOf(6, 99), 6);
        StarHerds x = by("w1(1=1);x7(1=1)");
        x.ground(5, 6, 2);
        x.herd(0, 5, 5, 9, 99, 0);
        due("99 on a well", x.hour(0), 0);
        law(x, "x7(1=1)");
        x.herd(0, 5, 6, 9, 99, 0);
        due("99 without w", x.hour(0), 7);
    }

    private static int fearOf(String grows, int fear) {
        StarHerds x = by("f" + grows + "(1=1)");
        x.herd(0, 5, 5, 9, 0, fear);
        x.hour(0);
        return x.herdIs(0, 3);
    }

    private static void fear() {
        due("92 and 6", fearOf("6", 92), 98);
        due("92 and 7", fearOf("7", 92), 99);
        due("92 and 8", fearOf("8", 92), 99);
        due("99 and 1", fearOf("1", 99), 99);
        due("8 less 7", fearOf("0-7", 8), 1);
        due("8 less 8", fearOf("0-8", 8), 0);
        due("8 less 9", fearOf("0-9", 8), 0);
        due("0 less 1", fearOf("0-1", 0), 0);
        due("on a well, too", fearOn(2), 12);
        due("on a bog, too", fearOn(1), 12);
    }

    private static int fearOn(int sort) {
        StarHerds x = by("f7(1=1)");
        x.ground(5, 6, sort);
        x.herd(0, 5, 5, 9, 0, 5);
        x.hour(0);
        return x.herdIs(0, 3);
    }

    private static void noneLeft() {
        StarHerds x = by("s99(1=1);w9(1=1);x9(1=1);f9(1=1)");
        x.ground(5, 6, 1);
        x.herd(0, 5, 5, 9, 95, 5);
        due("all sink, none is left to die", x.hour(0), 9);
        due("thirst", x.herdIs(0, 2), 99);
        due("fear", x.herdIs(0, 3), 14);
        due("led", x.led(18), 9);
        law(x, "s99(1=1);w1+n(1=1);f1+n(1=1)");
        x.herd(0, 5, 5, 9, 0, 0);
        x.hour(0);
        due("w of none", x.herdIs(0, 2), 1);
        due("f of none", x.herdIs(0, 3), 1);
        x.hour(0);
        due("in the next hour it is not on", x.herdIs(0, 2) + x.herdIs(0, 3), 2);
        law(x, "w9(1=1);x99(1=1);f9(1=1)");
        x.herd(0, 5, 5, 9, 95, 5);
        due("all die", x.hour(0), 9);
        due("fear, also if none is left by (4)", x.herdIs(0, 3), 14);
    }

    private static void led() {
        StarHerds x = by("a9(1=1);s2(1=1);x3(1=1)");
        x.ground(5, 6, 1);
        for (int l = 0; l < 12; l++) {
            yes("lamp", l < 9 ? x.inn(l, 5, 7, 0) && x.dog(l, 9) : x.stray(l, 5, 7, 0, true));
            x.herd(5, 5, 5, 9, 99, 0);
            due("two sink and three die", x.hour(0), 5);
            due("led to lamp " + l, x.led(l), 5);
            due("none to nobody", x.led(18), 0);
            x.gone(l);
        }
        x.herd(5, 5, 5, 9, 99, 0);
        due("lost", x.hour(0), 5);
        due("led to nobody", x.led(18), 5);
        for (int h = 0; h < 5; h++) {
            x.herd(h, 5, 7, 9, 0, 0);
            x.fire(h, true);
            x.herd(5, 5, 5, 9, 99, 0);
            // The herd with the horns sees none and goes on, one row ahead of the bog.
            due("lost", x.hour(0), 5);
            due("led to horns " + h, x.led(12 + h), 5);
            x.herd(h, 5, 7, 0, 0, 0);
        }
        x.herd(5, 5, 7, 9, 0, 0);
        x.fire(5, true);
        x.herd(4, 5, 5, 9, 99, 0);
        due("lost", x.hour(0), 5);
        due("led to horns 5", x.led(17), 5);
        due("more to the same", x.led(16), 5);
        stays("no lamp 19", y -> y.led(19), -1);
        stays("no lamp -1", y -> y.led(-1), -1);
    }
}
