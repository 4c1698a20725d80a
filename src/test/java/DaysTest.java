/** Promises 7 to 15, 35, 36 and 38 to 40: the three DAYS, with answers worked out by hand. */
public final class DaysTest {
    private static final Checks CHECKS = new Checks();
    private static final String TOWN = "square 6 4;quarter a 0 0 10 5;quarter b 3 0 10 3;cart 0 1 0 2 1;cart 1 5 3 1 0;"
        + "cap 5 2;drain 0 1;judge 0 2;judge 3 1;spot a 5 1;law 2 1 3 4;";

    public static void main(String[] args) {
        whatIsTold();
        noSuchOnes();
        fourMinutes();
        barredAndFar();
        aimed();
        slips();
        sandAndDraws();
        threeDays();
        lastMinutes();
        thrownBack();
        drains();
        who();
        odds();
        said();
        images();
        CHECKS.close();
    }

    private static OrangeFight town(String text, String plans) {
        return CHECKS.inTown(text, plans);
    }

    private static void thrown(OrangeFight x, int k, int... want) {
        for (int what = 0; what < 6; what++) {
            CHECKS.due("thrown(" + k + ", " + what + ")", x.thrown(k, what), want.length == 0 ? -1 : want[what]);
        }
        CHECKS.due("thrown(" + k + ", 6)", x.thrown(k, 6), -1);
        CHECKS.due("thrown(" + k + ", -1)", x.thrown(k, -1), -1);
    }

    private static void quarter(OrangeFight x, int q, int... want) {
        for (int what = 0; what < want.length; what++) {
            CHECKS.due("quarter(" + q + ", " + what + ")", x.quarter(q, what), want[what]);
        }
    }

    private static void cart(OrangeFight x, int c, int... want) {
        for (int what = 0; what < want.length; what++) {
            CHECKS.due("cart(" + c + ", " + what + ")", x.cart(c, what), want[what]);
        }
    }

    private static void now(OrangeFight x, int... want) {
        for (int what = 0; what < want.length; what++) {
            CHECKS.due("now(" + what + ")", x.now(what), want[what]);
        }
        CHECKS.due("now(-1)", x.now(-1), -1);
        CHECKS.due("now(8)", x.now(8), -1);
    }

    private static void whatIsTold() {
        OrangeFight x = town(TOWN, "a 3 2;b 9 5 feint;");
        quarter(x, 0, 0, 5, 10, 0, 0, 0, 3, 2, 0, 15);
        quarter(x, 1, 3, 3, 10, 0, 0, 0, 9, 5, 1, -1);
        cart(x, 0, 1, 0, 2, 1, 0, 1);
        cart(x, 1, 35, 1, 1, 0, 0, 0);
        CHECKS.due("cell(0, 1)", x.cell(0, 1), 0);
        CHECKS.due("cell(3, 1)", x.cell(3, 1), 1);
        CHECKS.due("cell(4, 1)", x.cell(4, 1), -1);
        CHECKS.due("a cap", x.cell(25, 2), 1);
        CHECKS.due("no cap", x.cell(10, 2), 0);
        CHECKS.due("a drain", x.cell(10, 3), 1);
        CHECKS.due("no drain", x.cell(25, 3), 0);
        CHECKS.due("a judge", x.cell(13, 4), 1);
        CHECKS.due("no judge", x.cell(3, 4), 0);
        now(x, 0, 0, 0, 0, 0, 0, 0, 0);
    }

    private static void noSuchOnes() {
        OrangeFight x = town(TOWN, "");
        int[][] wrong = {{0, -1, 0}, {0, 2, 0}, {0, 0, -1}, {0, 0, 10}, {1, -1, 0}, {1, 2, 0}, {1, 0, -1}, {1, 0, 6},
            {2, -1, 0}, {2, 6, 0}, {2, 40, 0}, {2, 100, 0}, {2, 0, -1}, {2, 0, 6}, {2, Integer.MIN_VALUE, 0}};
        for (int[] w : wrong) {
            CHECKS.noSuch(x, w[0] == 0 ? "quarter" : w[0] == 1 ? "cart" : "cell", w[1], w[2]);
        }
        now(x, 0, 0, 0, 0, 0, 0, 0, 0);
    }

    /** The TOWN's first MINUTES: NEAR, JOINED, a feint and what it gives, marks of two judges, what is thrown back. */
    private static void fourMinutes() {
        OrangeFight x = town(TOWN, "a 3 2;b 9 5 feint;");
        x.sand(0);
        x.sand(3);
        CHECKS.due("on(1)", x.on(1), 1);
        thrown(x, 0, 0, 0, 3, 6, 1, 34);
        thrown(x, 1, 1, 0, 3, 4, 1, 13);
        thrown(x, 2);
        thrown(x, -1);
        CHECKS.due("on(1)", x.on(1), 1);
        thrown(x, 0, 0, 0, 3, 6, 0, 28);
        thrown(x, 1, 1, 0, 2, 0, 0, 0);
        quarter(x, 0, 0, 5, 8, 62, 6, 0);
        // b was hit by CART 1 from 5 away: 3 less 2.
        quarter(x, 1, 3, 3, 9, 13, 1, 2);
        cart(x, 0, 1, 0, 0, 1, 16, 1);
        cart(x, 1, 35, 1, 0, 0, 0, 1);
        now(x, 0, 2, 3, 3, 0, 0, 1);
        CHECKS.due("on(1)", x.on(1), 1);
        thrown(x, 0, 1, 0, 3, 6, 0, 14);
        thrown(x, 1);
        quarter(x, 1, 3, 3, 8, 27, 1, 0);
        CHECKS.due("on(2)", x.on(2), 2);
        // In MINUTE 4 CART 0 is gone, and CART 1, 5 away, is behind a cap.
        thrown(x, 0, 1, 1, 0, 0, 0, 0);
        quarter(x, 1, 3, 3, 8, 27, 1, 2);
        now(x, 0, 5, 4, 3, 0, 1, 2);
        cart(x, 0, 1, 0, 0, 1, 22, 0);
        CHECKS.due("on(1)", x.on(1), 1);
        thrown(x, 0);
        x.begin(0);
        quarter(x, 1, 3, 3, 10, 0, 0, 0);
        cart(x, 0, 1, 0, 2, 1, 0, 1);
        now(x, 0, 0, 0, 0, 0, 0, 0, 0);
        CHECKS.due("sand stays", x.cell(0, 5), 1);
    }

    private static void barredAndFar() {
        // From 3 away a cap bars, from 2 it does not; where none is, AIM is less by the DISTANCE and by PADS.
        String town = "square 10 10;quarter a 0 0 9 9;quarter b 1 0 9 9;quarter c 0 9 9 9;cart 0 3 0 0 1;cart 0 4 9 0 1;"
            + "cap 3 1;judge 0 0;judge 0 9;law 1 5 1 2;";
        OrangeFight x = town(town, "a 9 9;b 9 9;c 9 9;");
        x.on(1);
        thrown(x, 0, 0, 0, 0, 0, 0, 0);
        thrown(x, 1, 1, 0, 3, 10, 0, 18);
        thrown(x, 2, 2, 1, 4, 4, 0, 4);
        quarter(x, 0, 0, 9, 9, 0, 0, 0);
        quarter(x, 2, 90, 9, 8, 4, 0, 0);
        now(x, 0, 1, 2, 0, 0, 1, 0, 2);
        CHECKS.due("PULP of the CART's CELL", x.cell(3, 0), 1);
        // HIT 6 does not hurt, HIT 7 does; HIT is 0 at least.
        OrangeFight y = town("square 9 2;quarter a 0 0 9 5;quarter b 0 1 9 4;quarter c 8 1 9 1;cart 0 2 0 0 0;cart 0 1 1 0 0;"
            + "cart 0 4 1 0 0;judge 0 0;judge 8 0;law 1 0 0 9;", "a 2 9;b 2 9;c 9 9;");
        y.on(1);
        thrown(y, 0, 0, 0, 3, 7, 0, -2);
        thrown(y, 1, 1, 1, 3, 6, 0, 6);
        thrown(y, 2, 2, 2, 4, 0, 0, 0);
        quarter(y, 0, 0, 5, 8, -2);
    }

    private static void aimed() {
        OrangeFight x = town("square 9 2;quarter a 0 0 3 1;quarter b 8 0 0 1;cart 3 2 0 0 0;cart 3 1 1 0 0;cart 4 1 0 0 0;",
            "a 2 1;b 9 9;");
        CHECKS.due("none yet", x.aims(0, 2), -1);
        CHECKS.due("of like ones the first", x.aims(0, 3), 0);
        CHECKS.due("the nearest", x.aims(0, 4), 2);
        CHECKS.due("three MINUTES more", x.aims(0, 7), 2);
        CHECKS.due("gone", x.aims(0, 8), -1);
        CHECKS.due("no box", x.aims(1, 4), -1);
        CHECKS.due("no such MINUTE", x.aims(0, 240), -1);
        CHECKS.due("no such MINUTE", x.aims(0, -1), -1);
        CHECKS.due("no such QUARTER", x.aims(2, 4), -1);
        CHECKS.due("no such QUARTER", x.aims(-1, 4), -1);
        x.on(5);
        CHECKS.due("one box each: the next", x.aims(0, 5), 1);
        CHECKS.due("one box each: used in MINUTE 3", x.aims(0, 3), 1);
        x.on(1);
        CHECKS.due("no box is left", x.aims(0, 6), -1);
        x.on(234);
        CHECKS.due("DAY 1 brings no boxes to QUARTERS", x.aims(0, 3), -1);
        Checks.put(x, "b 9 9;");
        CHECKS.due("plans", x.plans(), 1);
        x.begin(0);
        CHECKS.due("no plan", x.aims(0, 3), -1);
    }

    private static int drawn;

    private static int draw(int n) {
        drawn = drawn * 1103515245 + 12345;
        return (drawn >>> 8) % n;
    }

    /** A QUARTER under two CARTS on its own CELL: all PULP is there, 4 a MINUTE by the CARTS and 1 by each box. */
    private static void slips() {
        int slipped = 0;
        int feinted = 0;
        for (int seed = -3; seed < 30; seed++) {
            OrangeFight x = town("square 3 3;quarter a 1 1 400 1;cart 0 1 1 400 0;cart 0 1 1 400 0;judge 0 0;", "a 9 9 feint;");
            x.begin(seed);
            drawn = seed;
            int pulp = 0;
            int more = 0;
            slipped = 0;
            feinted = 0;
            for (int minute = 0; minute < 4; minute++) {
                int kind = draw(40) < pulp ? 1 : minute % 2 == 1 ? 2 : 3;
                slipped += kind == 1 ? 1 : 0;
                feinted += kind == 2 ? 1 : 0;
                CHECKS.due("on(1)", x.on(1), 1);
                thrown(x, 0, 0, 0, kind, kind == 3 ? 3 + more : 0, 0, kind == 3 ? 5 + more : 0);
                more = kind == 2 ? 2 : kind == 3 ? 0 : more;
                pulp += 4 + (kind == 2 ? 0 : 1);
                CHECKS.due("PULP", x.cell(11, 0), pulp);
                CHECKS.due("PULP in all", x.now(7), pulp);
                CHECKS.due("more", x.quarter(0, 5), more);
            }
            now(x, 0, 4, 4 - feinted, 8, slipped, 0, feinted);
            quarter(x, 0, 11, 1, 396 + feinted);
        }
    }

    private static void sandAndDraws() {
        // On sand no draw is made: so b's draws are the first ones by the seed.
        OrangeFight x = town("square 9 2;quarter a 0 0 400 1;quarter b 8 0 400 1;cart 0 0 0 400 0;cart 0 8 0 400 0;"
            + "cart 0 8 0 400 0;cart 0 8 0 400 0;", "a 2 9;b 2 9;");
        CHECKS.due("sand outside", x.sand(9), false);
        CHECKS.due("sand outside", x.sand(-1), false);
        CHECKS.due("sand outside", x.sand(20), false);
        CHECKS.due("sand", x.sand(0), true);
        CHECKS.due("sand again", x.sand(0), false);
        int slips = 0;
        for (int seed = 0; seed < 20; seed++) {
            x.begin(seed);
            drawn = seed;
            int pulp = 0;
            for (int minute = 0; minute < 4; minute++) {
                int kind = draw(40) < pulp ? 1 : 3;
                slips += kind == 1 ? 1 : 0;
                pulp += 7;
                x.on(1);
                CHECKS.due("a on sand", x.thrown(0, 2), 3);
                CHECKS.due("b by draws", x.thrown(1, 2), kind);
            }
        }
        CHECKS.due("there were slips", slips > 5, true);
        // Nor is one made for what is BARRED.
        OrangeFight y = town("square 9 2;quarter a 0 0 400 1;quarter b 8 0 400 1;cart 0 4 0 0 0;cart 0 8 0 400 0;"
            + "cart 0 8 0 400 0;cart 0 8 0 400 0;cap 4 0;", "a 4 9;b 2 9;");
        y.begin(7);
        drawn = 7;
        for (int minute = 0; minute < 4; minute++) {
            y.on(1);
            CHECKS.due("a is BARRED", y.thrown(0, 2), 0);
            CHECKS.due("b by draws", y.thrown(1, 2), draw(40) < 7 * minute ? 1 : 3);
        }
    }

    private static void threeDays() {
        OrangeFight x = town("square 3 3;quarter a 1 1 7 1;cart 1 1 0 3 0;judge 0 0;", "a 9 1;");
        CHECKS.due("on(0)", x.on(0), -1);
        CHECKS.due("on(-1)", x.on(-1), -1);
        CHECKS.due("on(721)", x.on(721), -1);
        x.sand(11);
        CHECKS.due("on(239)", x.on(239), 239);
        now(x, 0, 239, 1, 3, 0, 0, 0, 7);
        cart(x, 0, 1, 1, 0, 0, 3, 0);
        CHECKS.due("on(1)", x.on(1), 1);
        now(x, 1, 0, 1, 3, 0, 0, 0, 0);
        cart(x, 0, 1, 1, 3, 0, 3, 0);
        quarter(x, 0, 11, 1, 6, 5, 9, 0);
        CHECKS.due("sand stays", x.cell(11, 5), 1);
        // EACH is by the DAY: so one box more is used on DAY 1 and on DAY 2.
        CHECKS.due("on(400)", x.on(400), 400);
        now(x, 2, 160, 3, 9, 0, 0, 0, 7);
        CHECKS.due("on(720)", x.on(720), 80);
        now(x, 3, 240, 3, 9, 0, 0, 0);
        quarter(x, 0, 11, 1, 4, 15, 27, 0);
        cart(x, 0, 1, 1, 0, 0, 9, 0);
        CHECKS.due("on(1)", x.on(1), 0);
        x.begin(9);
        now(x, 0, 0, 0, 0, 0, 0, 0, 0);
        CHECKS.due("on(720)", x.on(720), 720);
        quarter(x, 0, 11, 1, 4, 15, 27, 0);
    }

    /** A CART of MINUTE 239 is there in that one alone; what was thrown in it is told till another goes by. */
    private static void lastMinutes() {
        OrangeFight x = town("square 3 3;quarter a 1 1 7 1;cart 239 1 0 3 0;judge 0 0;", "a 9 9;");
        x.on(239);
        thrown(x, 0);
        cart(x, 0, 1, 239, 3, 0, 0, 1);
        x.on(1);
        thrown(x, 0, 0, 0, 3, 3, 0, 5);
        now(x, 1, 0, 1, 1, 0, 0, 0, 0);
        cart(x, 0, 1, 239, 3, 0, 3, 0);
        x.on(1);
        thrown(x, 0);
        x.on(479);
        now(x, 3, 240, 3, 3);
        thrown(x, 0, 0, 0, 3, 3, 0, 5);
        cart(x, 0, 1, 239, 2, 0, 9, 0);
        CHECKS.due("on(1)", x.on(1), 0);
        thrown(x, 0, 0, 0, 3, 3, 0, 5);
        x.begin(0);
        thrown(x, 0);
    }

    private static void thrownBack() {
        // At the nearest, of like ones the first, 6 away at most; without a plan or a box, too.
        for (int far = 0; far < 9; far++) {
            OrangeFight x = town("square 10 2;quarter b " + far + " 1 0 1;quarter a " + far + " 0 0 1;cart 0 0 0 9 0;", "");
            x.on(1);
            int[] wounds = {3, 3, 2, 2, 1, 1, 0};
            CHECKS.due("WOUNDS from " + far, x.quarter(1, 4), far < 7 ? wounds[far] : 0);
            CHECKS.due("PULP from " + far, x.cell(far, 0), far < 7 ? 2 : 0);
            CHECKS.due("boxes from " + far, x.cart(0, 2), far < 7 ? 8 : 9);
            CHECKS.due("thrown from " + far, x.now(3), far < 7 ? 1 : 0);
        }
        OrangeFight y = town("square 10 2;quarter a 2 0 0 1;quarter b 1 1 0 1;cart 0 0 0 9 0;", "");
        y.on(4);
        CHECKS.due("the first", y.quarter(0, 4), 8);
        CHECKS.due("not the other", y.quarter(1, 4), 0);
    }

    private static void drains() {
        // Two drains side by side take 2 from each other's CELL, 1 from their other neighbours, none below 0.
        OrangeFight x = town("square 4 4;quarter a 1 1 0 1;quarter b 3 3 0 1;cart 0 1 1 9 0;cart 0 3 3 1 0;drain 1 1;drain 2 1;", "");
        x.on(1);
        CHECKS.due("2 more, 2 less", x.cell(11, 0), 0);
        CHECKS.due("no drain near", x.cell(33, 0), 2);
        OrangeFight y = town("square 4 4;quarter a 1 1 0 1;cart 0 1 1 9 0;cart 0 1 1 9 0;drain 1 2;", "");
        y.on(4);
        CHECKS.due("16 less 4", y.cell(11, 0), 12);
        y.on(5);
        CHECKS.due("16 less 9", y.cell(11, 0), 7);
        y.on(7);
        CHECKS.due("all gone", y.cell(11, 0), 0);
        y.on(1);
        CHECKS.due("not below 0", y.cell(11, 0), 0);
    }

    private static void who() {
        OrangeFight x = town("square 10 10;quarter a 0 0 1 5;quarter b 4 0 9 9;quarter c 0 1 0 5;quarter d 9 9 9 9;"
            + "cart 200 1 0 0 1;cart 1 1 1 0 0;cap 1 1;", "a 9 9 feint;");
        // By whatever plan, there or not: a and c are NEAR (5 and 2 less 1), but c has no box; b is BARRED.
        CHECKS.due("who(0, 6)", x.who(0, 6), 1);
        CHECKS.due("who(0, 5)", x.who(0, 5), 0);
        CHECKS.due("who(0, -1)", x.who(0, -1), 0);
        CHECKS.due("who(2, 0)", x.who(2, 0), -1);
        CHECKS.due("who(-1, 0)", x.who(-1, 0), -1);
        x.on(2);
        CHECKS.due("a has feinted", x.quarter(0, 5), 2);
        CHECKS.due("who(0, 6) behind a feint", x.who(0, 6), 0);
        CHECKS.due("who(0, 8) behind a feint", x.who(0, 8), 1);
        x.on(1);
        CHECKS.due("a has no box", x.who(0, 8) + x.who(0, 6), 0);
        OrangeFight y = town("square 10 10;quarter a 0 0 1 5;quarter b 4 0 9 9;quarter d 9 9 9 9;cart 200 1 0 0 1;", "");
        CHECKS.due("FAR: 9 less 3 less 1", y.who(0, 5), 2);
        CHECKS.due("HIT 0 at least", y.who(0, 0), 4);
    }

    private static void odds() {
        // A feint behind which a slip comes is kept: so slips may bring more marks than a SURE DAY has, or fewer.
        OrangeFight x = town("square 3 3;quarter a 1 1 400 1;cart 0 1 1 400 0;cart 0 1 1 400 0;judge 0 0;law 1 0 0 0;", "a 9 9;");
        CHECKS.due("no slip has more", x.odds(0, 60, 5), 0);
        CHECKS.due("odds of 0", x.odds(0, 0, 5), -1);
        CHECKS.due("odds of 61", x.odds(0, 61, 5), -1);
        CHECKS.due("odds of no QUARTER", x.odds(1, 1, 5), -1);
        CHECKS.due("odds of no QUARTER", x.odds(-1, 1, 5), -1);
        // A law of HURT alone: each slip spares 9, so all seeds with a slip have more.
        OrangeFight y = town("square 3 3;quarter a 1 1 400 9;cart 0 1 1 400 0;cart 0 1 1 400 0;judge 0 0;law 0 0 0 9;", "a 9 9;");
        int more = 0;
        for (int seed = Integer.MAX_VALUE - 5; more < 1000000 && seed != Integer.MIN_VALUE + 14; seed++) {
            y.begin(seed);
            y.on(240);
            more += y.quarter(0, 3) > -36 ? 1 : 0;
        }
        y.begin(3);
        y.on(7);
        CHECKS.due("sure", y.sure(0), -36);
        CHECKS.due("some have more", more > 3, true);
        CHECKS.due("odds", y.odds(0, 20, Integer.MAX_VALUE - 5), more);
        CHECKS.due("nothing is changed", y.now(1), 7);
        CHECKS.due("sand", y.sand(11), true);
        CHECKS.due("sand counts", y.odds(0, 20, Integer.MAX_VALUE - 5), 0);
    }

    private static void sayOf(OrangeFight x, String text, int... want) {
        Checks.put(x, text);
        CHECKS.due("sentence '" + text + "' is well told", x.sentence() > 0, true);
        CHECKS.due("said(-1) of '" + text + "'", x.said(-1), want.length);
        for (int k = 0; k < want.length; k++) {
            CHECKS.due("said(" + k + ") of '" + text + "'", x.said(k), want[k]);
        }
        CHECKS.due("said behind the last of '" + text + "'", x.said(want.length), -1);
        CHECKS.due("said(-2) of '" + text + "'", x.said(-2), -1);
    }

    private static void said() {
        OrangeFight x = town("square 9 2;quarter a 0 0 10 5;quarter b 1 1 10 3;quarter c 8 0 5 3;cart 1 1 0 2 0;judge 0 1;"
            + "judge 1 0;", "a 3 2;b 9 5 feint;");
        CHECKS.due("said without a SENTENCE", x.said(-1), -1);
        CHECKS.due("said without a SENTENCE", x.said(0), -1);
        sayOf(x, "feints", 1);
        sayOf(x, "not feints", 0, 2);
        sayOf(x, "boxes = 10 and not feints", 0);
        sayOf(x, "boxes > 5 or place > 1", 0, 1, 2);
        sayOf(x, "place < 2", 0, 1);
        sayOf(x, "place = 0 or place = 1 and feints", 0, 1);
        sayOf(x, "(place = 0 or place = 1) and feints", 1);
        sayOf(x, "not place = 0 and aim = 3", 1, 2);
        sayOf(x, "not (place = 0 or aim = 3)");
        sayOf(x, "sees = 2", 0, 1);
        sayOf(x, "sees = 0", 2);
        sayOf(x, "wounds = 0 and marks = 0", 0, 1, 2);
        sayOf(x, "joins a or joins b");
        x.on(1);
        // MINUTE 1 is next, and the CART is there.
        CHECKS.due("said(-1)", x.said(-1), 2);
        sayOf(x, "joins a", 1);
        sayOf(x, "joins b", 0);
        sayOf(x, "joins c");
        x.on(2);
        // a threw twice, HIT 7, 9 a judge and 1 more by JOIN once; b feinted and threw NEAR with AIM 5.
        sayOf(x, "marks = 38", 0);
        sayOf(x, "marks > 18", 0, 1);
        sayOf(x, "boxes < 10", 0, 1, 2);
        sayOf(x, "wounds > 5", 0);
        sayOf(x, "aim > 3", 0);
        x.on(717);
        sayOf(x, "joins a or joins b");
        OrangeFight y = town("square 3 3;", "");
        sayOf(y, "feints");
    }

    private static void images() {
        OrangeFight x = town(TOWN, "a 3 2;b 9 5 feint;");
        CHECKS.due("nothing kept", x.restore(0), false);
        CHECKS.due("image(-1)", x.image(-1), false);
        CHECKS.due("image(2)", x.image(2), false);
        CHECKS.due("restore(2)", x.restore(2), false);
        sayOf(x, "feints", 1);
        x.begin(77);
        x.on(2);
        x.sand(5);
        CHECKS.due("image(1)", x.image(1), true);
        CHECKS.due("nothing kept", x.restore(0), false);
        x.on(3);
        int boxes = x.quarter(1, 2);
        int[] then = {x.quarter(0, 3), x.quarter(1, 3), x.now(2), x.now(7), x.thrown(0, 2), x.cell(3, 0)};
        CHECKS.due("restore(1)", x.restore(1), true);
        now(x, 0, 2, 3, 3, 0, 0, 1);
        CHECKS.due("what was thrown", x.thrown(1, 2), 2);
        CHECKS.due("a feint's more", x.quarter(1, 5), 2);
        x.on(3);
        int[] again = {x.quarter(0, 3), x.quarter(1, 3), x.now(2), x.now(7), x.thrown(0, 2), x.cell(3, 0)};
        for (int i = 0; i < then.length; i++) {
            CHECKS.due("as it went before: " + i, again[i], then[i]);
        }
        CHECKS.due("boxes, too", x.quarter(1, 2), boxes);
        // Another TOWN, and what other calls told last; the kept one comes back whole, the tape stays.
        Checks.put(x, "square 2 2;cart 0 0 0 0 0;spot");
        CHECKS.due("a FAULT", x.town(), -31);
        Checks.put(x, "square 2 2;cart 0 0 0 0 0;cart 0 1 1 0 0;");
        CHECKS.due("town", x.town(), 3);
        CHECKS.due("image(0)", x.image(0), true);
        CHECKS.due("order", x.order(), 0);
        Checks.put(x, "a 1 1;");
        CHECKS.due("plans", x.plans(), -1);
        Checks.put(x, 1, 2, 3);
        CHECKS.due("restore(1)", x.restore(1), true);
        CHECKS.due("the tape stays", x.count(8), 3);
        CHECKS.due("the FAULT stays", x.fault(), 3);
        CHECKS.due("the ORDER stays", x.comes(1), 1);
        CHECKS.due("W", x.count(0), 6);
        CHECKS.due("QUARTERS", x.count(2), 2);
        CHECKS.due("PLANS", x.count(7), 2);
        CHECKS.due("sand", x.cell(5, 5), 1);
        CHECKS.due("the SENTENCE", x.said(0), 1);
        CHECKS.due("SURE DAYS of it", x.sure(0), 62);
        CHECKS.due("image(1)", x.image(1), true);
        CHECKS.due("restore(0)", x.restore(0), true);
        CHECKS.due("W", x.count(0), 2);
        CHECKS.due("no SENTENCE", x.said(-1), -1);
        CHECKS.due("no PLANS", x.count(7), 0);
        CHECKS.due("no sand", x.cell(0, 5), 0);
    }
}
