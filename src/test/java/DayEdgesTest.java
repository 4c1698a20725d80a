/**
 * The sentences on the three DAYS (promises 7 to 15, 35, 36, 38 to 40, the second part of Terms) that name an edge: one
 * test for each, with the sentence above it. What DaysTest holds already is not told here again.
 */
public final class DayEdgesTest {
    private static final Checks CHECKS = new Checks();
    /** Ten CARTS on a's own CELL from MINUTE 0, which bring 20 PULP a MINUTE; no draw of 40 is 40 or more. */
    private static final String WET = "square 9 2;quarter a 0 0 400 5;judge 0 0;" + "cart 0 0 0 400 0;".repeat(10);
    private static final int[] SEEDS = {Integer.MIN_VALUE, Integer.MIN_VALUE + 1, -1, 0, 1, 12345, Integer.MAX_VALUE - 1,
        Integer.MAX_VALUE};

    private static int drawn;

    public static void main(String[] args) {
        quarterWhat();
        cartWhat();
        cellWhat();
        throwsChangeNothing();
        cartIsThere();
        planAndBox();
        near();
        each();
        eachIsOfBoxes();
        caps();
        slipsByPulp();
        slipUsesABox();
        slipAheadOfFeint();
        onlyDraws();
        feintsGiveTwo();
        distances();
        joinedByEight();
        hurt();
        judgesNear();
        twelveJudges();
        cartsWithABox();
        atOnce();
        edgesAreNoNeighbours();
        twelveDrains();
        daysBeginAnew();
        wrappingSeeds();
        newTown();
        nothingOfTheOldTown();
        beginsAnew();
        onEdges();
        lastOfDayTwo();
        nowEdges();
        thrownEdges();
        sandEdges();
        aimsEdges();
        eightyMinutes();
        whoEdges();
        oddsEdges();
        oddsChangeNothing();
        saidEdges();
        saidOfTwenty();
        joinsAnother();
        imageEdges();
        imagesKeepAll();
        imagesKeepDraws();
        twoImages();
        CHECKS.close();
    }

    private static OrangeFight town(String text, String plans) {
        return CHECKS.inTown(text, plans);
    }

    private static void tellPlans(OrangeFight x, String plans, int want) {
        CHECKS.reads(x, 'p', plans, want, 0);
    }

    private static void thrown(OrangeFight x, int k, int... want) {
        for (int what = 0; what < want.length; what++) {
            CHECKS.due("thrown(" + k + ", " + what + ")", x.thrown(k, what), want[what]);
        }
    }

    private static int draw(int n) {
        drawn = drawn * 1103515245 + 12345;
        return (drawn >>> 8) % n;
    }

    /** A CELL so many STEPS from the first one, in a square of ten by ten. */
    private static String at(int far) {
        return Math.min(far, 9) + " " + Math.max(0, far - 9);
    }

    /** "NONE of 6 to 8: no plan", "9 its spot (NONE)", "NoSuchElementException: no such ones." */
    private static void quarterWhat() {
        OrangeFight x = town("square 3 3;quarter a 2 2 0 1;quarter b 0 0 400 9;spot b 0 0;", "b 0 0;");
        int[][] want = {{22, 1, 0, 0, 0, 0, -1, -1, -1, -1}, {0, 9, 400, 0, 0, 0, 0, 0, 0, 0}};
        for (int q = 0; q < 2; q++) {
            for (int what = 0; what < 10; what++) {
                CHECKS.due("quarter(" + q + ", " + what + ")", x.quarter(q, what), want[q][what]);
            }
        }
        int[] others = {-1, 10, Integer.MIN_VALUE, Integer.MAX_VALUE};
        for (int o : others) {
            CHECKS.noSuch(x, "quarter", 0, o);
            CHECKS.noSuch(x, "quarter", o, 0);
        }
        CHECKS.noSuch(x, "quarter", 2, 0);
    }

    /** "Of a CART: ..", "NoSuchElementException: no such ones." */
    private static void cartWhat() {
        OrangeFight x = town("square 3 3;cart 0 2 2 400 9;cart 239 0 0 0 0;", "");
        int[][] want = {{22, 0, 400, 9, 0, 1}, {0, 239, 0, 0, 0, 0}};
        for (int c = 0; c < 2; c++) {
            for (int what = 0; what < 6; what++) {
                CHECKS.due("cart(" + c + ", " + what + ")", x.cart(c, what), want[c][what]);
            }
        }
        int[] others = {-1, 6, Integer.MIN_VALUE, Integer.MAX_VALUE};
        for (int o : others) {
            CHECKS.noSuch(x, "cart", 0, o);
            CHECKS.noSuch(x, "cart", o, 0);
        }
        CHECKS.noSuch(x, "cart", 2, 0);
    }

    /** "Of a CELL: ..", "NoSuchElementException: no such ones.": none outside W and H, though its number is in between. */
    private static void cellWhat() {
        OrangeFight x = town("square 2 3;", "");
        for (int at = -11; at < 112; at++) {
            if (at == 0 || at == 1 || at == 10 || at == 11 || at == 20 || at == 21) {
                CHECKS.due("cell(" + at + ", 1)", x.cell(at, 1), -1);
            } else {
                CHECKS.noSuch(x, "cell", at, 1);
            }
        }
        int[] others = {-1, 6, Integer.MIN_VALUE, Integer.MAX_VALUE};
        for (int o : others) {
            CHECKS.noSuch(x, "cell", 0, o);
            CHECKS.noSuch(x, "cell", o, 0);
        }
        OrangeFight y = town("square 10 10;quarter a 9 9 1 1;", "");
        CHECKS.due("the last CELL", y.cell(99, 1), 0);
        CHECKS.noSuch(y, "cell", 100, 1);
    }

    /** "A call that throws changes nothing." */
    private static void throwsChangeNothing() {
        OrangeFight x = town("square 2 2;quarter a 0 0 9 5;cart 0 1 1 9 0;judge 0 0;", "a 9 9;");
        Checks.put(x, 1, 2, 3);
        x.on(2);
        int[] before = State.of(x);
        CHECKS.noSuch(x, "quarter", 1, 0);
        CHECKS.noSuch(x, "quarter", 0, 10);
        CHECKS.noSuch(x, "cart", 1, 0);
        CHECKS.noSuch(x, "cart", 0, 6);
        CHECKS.noSuch(x, "cell", 2, 0);
        CHECKS.noSuch(x, "cell", 0, 6);
        CHECKS.due("all is as it was", State.same(State.of(x), before), true);
        CHECKS.due("the tape, too", x.count(8), 3);
    }

    /** "A DAY has MINUTES 0 to 239. A CART is there in its MINUTE and three more, each DAY anew". */
    private static void cartIsThere() {
        OrangeFight x = town("square 2 2;cart 10 0 0 1 0;cart 0 0 0 1 0;cart 237 0 0 1 0;cart 239 0 0 1 0;", "");
        int[] minutes = {0, 3, 4, 9, 10, 13, 14, 236, 237, 238, 239};
        for (int day = 0; day < 3; day++) {
            for (int minute : minutes) {
                if (minute > x.now(1)) {
                    x.on(minute - x.now(1));
                }
                CHECKS.due("10 to 13 in " + minute, x.cart(0, 5), minute >= 10 && minute <= 13);
                CHECKS.due("0 to 3 in " + minute, x.cart(1, 5), minute <= 3);
                CHECKS.due("237 to 239 in " + minute, x.cart(2, 5), minute >= 237);
                CHECKS.due("239 in " + minute, x.cart(3, 5), minute == 239);
            }
            x.on(1);
        }
        for (int c = 0; c < 4; c++) {
            CHECKS.due("all DAYS are gone", x.cart(c, 5), 0);
        }
    }

    /** "those with a plan and a box": one has the last box, one none, one no plan. */
    private static void planAndBox() {
        OrangeFight x = town("square 9 2;quarter a 0 0 1 1;quarter b 0 1 0 1;quarter c 1 0 9 1;cart 0 1 1 0 0;", "a 9 9;b 9 9;");
        x.on(1);
        thrown(x, 0, 0, 0, 3, 3, 0, 0);
        CHECKS.due("no other", x.thrown(1, 0), -1);
        x.on(1);
        CHECKS.due("none is left", x.thrown(0, 0), -1);
        CHECKS.due("boxes", x.quarter(0, 2), 0);
        CHECKS.due("thrown", x.now(2), 1);
        tellPlans(x, "c 9 9;", 1);
        x.on(1);
        thrown(x, 0, 2, 0, 3, 3, 0, 0);
    }

    /** "of those no farther than NEAR". */
    private static void near() {
        for (int far = 0; far <= 18; far++) {
            OrangeFight x = town("square 10 10;quarter a 0 0 9 1;cart 0 " + at(far) + " 0 0;", "a " + far + " 9;");
            CHECKS.due("NEAR " + far, x.aims(0, 0), 0);
            if (far > 0) {
                tellPlans(x, "a " + (far - 1) + " 9;", 1);
                CHECKS.due("NEAR one less than " + far, x.aims(0, 0), -1);
                x.on(1);
                CHECKS.due("none thrown", x.thrown(0, 0), -1);
            }
        }
    }

    /** "for which it used fewer than EACH boxes that DAY": of each CART by itself, each DAY anew; of 0 none. */
    private static void each() {
        String town = "square 9 2;quarter a 0 0 99 9;cart 0 0 1 0 0;cart 1 2 1 0 0;";
        OrangeFight none = town(town, "a 9 0;");
        CHECKS.due("EACH 0 AIMS at none", none.aims(0, 0), -1);
        none.on(720);
        CHECKS.due("EACH 0 uses none", none.now(2), 0);
        OrangeFight two = town(town, "a 9 2;");
        int[] at = {0, 0, 1, 1, -1};
        for (int day = 0; day < 3; day++) {
            for (int minute = 0; minute < at.length; minute++) {
                CHECKS.due("EACH 2 AIMS in MINUTE " + minute, two.aims(0, minute), at[minute]);
                two.on(1);
                CHECKS.due("EACH 2 in MINUTE " + minute, two.thrown(0, 1), at[minute]);
            }
            two.on(235);
        }
        CHECKS.due("four a DAY", two.now(2), 12);
        // By what it used, whatever plan it had then.
        OrangeFight more = town(town, "a 9 1;");
        more.on(1);
        CHECKS.due("one is used", more.aims(0, 0), -1);
        tellPlans(more, "a 9 2;", 1);
        CHECKS.due("another may be", more.aims(0, 0), 0);
    }

    /** "no box is used": what is BARRED or FEINTED is not counted by EACH. */
    private static void eachIsOfBoxes() {
        OrangeFight x = town("square 9 2;quarter a 0 0 9 5;cart 0 3 0 0 0;cap 3 0;judge 0 0;", "a 9 1 feint;");
        for (int minute = 0; minute < 4; minute++) {
            x.on(1);
            thrown(x, 0, 0, 0, 0, 0, 0, 0);
        }
        CHECKS.due("BARRED", x.now(5), 4);
        CHECKS.due("none is FEINTED", x.now(6), 0);
        CHECKS.due("no box", x.quarter(0, 2), 9);
        CHECKS.due("nothing comes of it", x.now(2) + x.now(7) + x.cart(0, 4) + x.quarter(0, 3) + x.quarter(0, 5), 0);
        OrangeFight y = town("square 9 2;quarter a 0 0 9 5;cart 1 1 0 0 0;judge 0 0;", "a 9 1 feint;");
        y.on(2);
        thrown(y, 0, 0, 0, 2, 0, 0, 0);
        CHECKS.due("no box", y.quarter(0, 2), 9);
        CHECKS.due("nothing but AIM comes of it", y.now(2) + y.now(7) + y.cart(0, 4) + y.quarter(0, 3), 0);
        y.on(1);
        thrown(y, 0, 0, 0, 3, 9, 0, 11);
        y.on(1);
        CHECKS.due("one of EACH 1 is used", y.thrown(0, 0), -1);
    }

    /** "a cap is on the CART's CELL or a neighbour, and it is 3 or farther". */
    private static void caps() {
        String[] cells = {"4 4", "3 4", "5 4", "4 3", "4 5"};
        String[] others = {"3 3", "5 5", "3 5", "5 3", "2 4", "6 4", "4 2", "4 6"};
        for (String cell : cells) {
            OrangeFight x = town("square 9 9;quarter a 1 4 9 9;quarter b 2 4 9 9;cart 0 4 4 0 0;cap " + cell + ";", "a 9 9;b 9 9;");
            x.on(1);
            CHECKS.due("3 away, a cap on " + cell, x.thrown(0, 2), 0);
            CHECKS.due("2 away, a cap on " + cell, x.thrown(1, 2), 3);
            CHECKS.due("who, a cap on " + cell, x.who(0, 6) * 10 + x.who(0, 11), 2);
        }
        for (String cell : others) {
            OrangeFight x = town("square 9 9;quarter a 1 4 9 9;cart 0 4 4 0 0;cap " + cell + ";", "a 9 9;");
            x.on(1);
            CHECKS.due("3 away, a cap on " + cell, x.thrown(0, 2), 4);
        }
    }

    /** "a draw of 40 .. is below the PULP of the QUARTER's CELL": of 40 PULP all, of none none; one less than PULP, PULP. */
    private static void slipsByPulp() {
        for (int seed = -20; seed < 20; seed++) {
            OrangeFight x = town(WET, "");
            x.begin(seed);
            x.on(2);
            CHECKS.due("PULP", x.cell(0, 0), 40);
            tellPlans(x, "a 9 9;", 1);
            x.on(1);
            CHECKS.due("40 PULP", x.thrown(0, 2), 1);
        }
        // 3 PULP in MINUTE 1, by one CART and one box: of the second draws some are 2, some 3.
        OrangeFight y = town("square 9 2;quarter a 0 0 400 5;cart 0 0 0 400 0;", "a 9 9;");
        int below = 0;
        int as = 0;
        for (int seed = 0; seed < 160; seed++) {
            drawn = seed;
            draw(40);
            int second = draw(40);
            if (second == 2 || second == 3) {
                y.begin(seed);
                y.on(1);
                CHECKS.due("no PULP", y.thrown(0, 2), 3);
                CHECKS.due("PULP", y.cell(0, 0), 3);
                y.on(1);
                CHECKS.due("a draw of " + second, y.thrown(0, 2), second == 2 ? 1 : 3);
                below += second == 2 ? 1 : 0;
                as += second == 3 ? 1 : 0;
            }
        }
        CHECKS.due("both were drawn", below > 0 && as > 0, true);
    }

    /** "SLIPPED: .. a box is used, nothing else comes of it", "1 PULP more .. (SLIPPED: on its own)". */
    private static void slipUsesABox() {
        OrangeFight x = town(WET + "cart 4 5 0 0 0;drain 8 1;", "");
        x.on(4);
        CHECKS.due("PULP", x.cell(0, 0), 80);
        tellPlans(x, "a 9 1;", 1);
        x.on(1);
        thrown(x, 0, 0, 10, 1, 0, 0, 0);
        CHECKS.due("a box", x.quarter(0, 2), 399);
        CHECKS.due("used", x.now(2), 1);
        CHECKS.due("SLIPPED", x.now(4), 1);
        CHECKS.due("no marks, no AIM", x.quarter(0, 3) + x.quarter(0, 5), 0);
        CHECKS.due("no HITS", x.cart(10, 4), 0);
        CHECKS.due("PULP on its own CELL", x.cell(0, 0), 81);
        CHECKS.due("none on the CART's", x.cell(5, 0), 0);
        x.on(1);
        CHECKS.due("it counts by EACH", x.thrown(0, 0), -1);
    }

    /** "of one kind, the first that is so": BARRED ahead of SLIPPED, SLIPPED ahead of FEINTED. */
    private static void slipAheadOfFeint() {
        OrangeFight x = town(WET + "cart 2 3 0 0 0;cap 4 0;", "");
        x.on(2);
        tellPlans(x, "a 9 1 feint;", 1);
        x.on(2);
        CHECKS.due("odd, but SLIPPED", x.thrown(0, 2), 1);
        CHECKS.due("none FEINTED", x.now(6), 0);
        CHECKS.due("no AIM more", x.quarter(0, 5), 0);
        x.on(1);
        thrown(x, 0, 0, 10, 0);
        CHECKS.due("wet, but BARRED", x.now(5), 1);
    }

    /** "made for each throw that is not BARRED, none on sand": a MINUTE without a throw draws none. */
    private static void onlyDraws() {
        // c's kind in MINUTE 3 follows from how many draws there were; b has no plan, d is BARRED, a FEINTS or throws.
        String text = "square 9 4;quarter a 0 0 400 1;quarter b 1 0 400 1;quarter d 0 3 400 1;quarter c 8 0 400 1;cart 0 3 3 0 0;"
            + "cart 0 0 0 0 0;cap 3 3;" + "cart 0 8 0 400 0;".repeat(4);
        OrangeFight x = town(text, "a 2 9 feint;d 3 9;c 2 9;");
        int slips = 0;
        for (int seed = 50; seed < 75; seed++) {
            x.begin(seed);
            drawn = seed;
            // a's own boxes fall on its own CELL: 0, 1, 1, .. PULP there.
            int dry = 0;
            int wet = 0;
            for (int minute = 0; minute < 4; minute++) {
                x.on(1);
                int first = draw(40) < dry ? 1 : minute % 2 == 1 ? 2 : 3;
                dry += first == 2 ? 0 : 1;
                int second = draw(40) < wet ? 1 : 3;
                wet += 9;
                slips += second == 1 ? 1 : 0;
                CHECKS.due("a by draws", x.thrown(0, 2), first);
                CHECKS.due("d is BARRED", x.thrown(1, 2), 0);
                CHECKS.due("c by draws", x.thrown(2, 2), second);
            }
        }
        CHECKS.due("some slipped", slips > 20, true);
    }

    /** "its AIM is 2 more at its next throw that is NEAR or FAR (2 in all, by however many feints)". */
    private static void feintsGiveTwo() {
        // Feints in MINUTES 1, 3, 239 and 1 of the next DAY; the throws between are in 2 and 4.
        OrangeFight x = town("square 3 3;quarter a 1 1 99 1;cart 239 1 2 0 0;cart 1 1 0 0 0;judge 0 0;", "a 9 9 feint;");
        x.on(2);
        CHECKS.due("2 more", x.quarter(0, 5), 2);
        x.on(1);
        thrown(x, 0, 0, 1, 3, 5, 0, 7);
        CHECKS.due("none more", x.quarter(0, 5), 0);
        x.on(1);
        CHECKS.due("2 more", x.quarter(0, 5), 2);
        x.on(1);
        thrown(x, 0, 0, 1, 3, 5, 0, 7);
        x.on(235);
        CHECKS.due("2 more behind the DAY", x.quarter(0, 5), 2);
        x.on(2);
        CHECKS.due("2 in all", x.quarter(0, 5), 2);
        x.on(1);
        thrown(x, 0, 0, 1, 3, 5, 0, 7);
        CHECKS.due("none more", x.quarter(0, 5), 0);
        CHECKS.due("FEINTED", x.now(6), 4);
        // At a FAR one, too: 5 and 2 less 3.
        OrangeFight y = town("square 9 3;quarter a 0 0 99 5;cart 1 3 0 0 0;", "a 9 9 feint;");
        y.on(3);
        thrown(y, 0, 0, 0, 4, 4);
        CHECKS.due("none more", y.quarter(0, 5), 0);
    }

    /** "NEAR: 2 or nearer: HIT is AIM and 2. FAR: HIT is AIM less DISTANCE. HIT is less by PADS, 0 at least; a box is used." */
    private static void distances() {
        for (int far = 0; far <= 18; far++) {
            for (int pads = 0; pads <= 9; pads += 3) {
                OrangeFight x = town("square 10 10;quarter a 0 0 9 9;cart 0 " + at(far) + " 0 " + pads + ";judge 0 0;", "a 18 9;");
                x.on(1);
                int hit = Math.max(0, (far <= 2 ? 11 : 9 - far) - pads);
                thrown(x, 0, 0, 0, far <= 2 ? 3 : 4, hit, 0, far <= 2 ? hit + 2 : hit);
                CHECKS.due("HITS from " + far, x.cart(0, 4), hit);
                CHECKS.due("a box from " + far, x.quarter(0, 2), 8);
            }
        }
    }

    /** "JOINED: .. by how many other QUARTERS threw so at the same CART in that MINUTE": none, and all nine. */
    private static void joinedByEight() {
        StringBuilder text = new StringBuilder("square 9 2;cart 0 4 1 0 0;cart 1 4 1 0 0;judge 4 0;law 0 0 1 0;");
        StringBuilder plans = new StringBuilder();
        for (int q = 0; q < 9; q++) {
            text.append("quarter ").append((char) ('a' + q)).append(' ').append(q).append(" 0 9 9;");
            plans.append((char) ('a' + q)).append(q < 8 ? " 18 1;" : " 18 2;");
        }
        OrangeFight x = town(text.toString(), plans.toString());
        x.on(1);
        for (int q = 0; q < 9; q++) {
            CHECKS.due("JOINED", x.thrown(q, 4), 8);
            CHECKS.due("marks", x.thrown(q, 5), 8);
        }
        CHECKS.due("a tenth", x.thrown(9, 0), -1);
        // In MINUTE 1 the last one throws at the first CART again, the others at the second.
        x.on(1);
        for (int q = 0; q < 8; q++) {
            CHECKS.due("JOINED", x.thrown(q, 4), 7);
        }
        thrown(x, 8, 8, 0, 4, 4, 0, 0);
    }

    /** "HURT: a HIT of 7 or more": FAR ones, too. */
    private static void hurt() {
        for (int aim = 3; aim <= 9; aim++) {
            OrangeFight x = town("square 9 2;quarter a 0 0 9 " + aim + ";quarter b 8 0 9 9;cart 0 1 0 0 0;cart 0 5 0 0 " + (9 - aim)
                + ";judge 0 0;judge 8 0;law 0 0 0 1;", "a 2 9;b 5 9;");
            x.on(1);
            CHECKS.due("NEAR with AIM " + aim, x.thrown(0, 5), aim + 2 >= 7 ? -1 : 0);
            CHECKS.due("FAR: 6 at most", x.thrown(1, 5), 0);
        }
        OrangeFight y = town("square 9 2;quarter a 0 0 9 9;cart 1 3 0 0 0;cart 3 3 0 0 1;judge 0 0;law 0 0 0 1;", "a 3 1 feint;");
        y.on(3);
        thrown(y, 0, 0, 0, 4, 8, 0, -1);
        y.on(2);
        thrown(y, 0, 0, 1, 4, 7, 0, -1);
    }

    /** "Each judge 4 or nearer to the QUARTER marks such a throw". */
    private static void judgesNear() {
        for (int far = 0; far <= 18; far++) {
            OrangeFight x = town("square 10 10;quarter a 0 0 9 1;cart 0 0 1 0 0;judge " + at(far) + ";", "a 9 9;");
            x.on(1);
            CHECKS.due("a judge " + far + " away", x.quarter(0, 3), far <= 4 ? 5 : 0);
            CHECKS.reads(x, 's', "sees=1", 1, 0);
            CHECKS.due("sees from " + far, x.said(-1), far <= 4 ? 1 : 0);
        }
    }

    /** All twelve judges see, or none: each marks by itself. */
    private static void twelveJudges() {
        StringBuilder text = new StringBuilder("square 10 10;quarter a 4 4 9 5;quarter b 9 9 9 5;cart 0 4 4 0 0;cart 0 9 9 0 0;");
        for (int i = 0; i < 12; i++) {
            text.append("judge ").append(3 + i % 3).append(' ').append(3 + i / 3).append(';');
        }
        OrangeFight x = town(text.toString(), "a 2 1;b 2 1;");
        x.on(1);
        CHECKS.due("twelve", x.thrown(0, 5), 12 * 9);
        CHECKS.due("none", x.thrown(1, 5), 0);
        CHECKS.due("a SURE DAY alike", x.sure(0), 12 * 9);
    }

    /** "those there with a box": the last one is thrown, then none; none where no QUARTER is 6 or nearer. */
    private static void cartsWithABox() {
        OrangeFight x = town("square 9 2;quarter a 0 0 0 1;cart 0 0 0 0 0;cart 0 3 0 1 0;cart 0 7 0 9 0;", "");
        x.on(1);
        CHECKS.due("one thrown", x.now(3), 1);
        CHECKS.due("its last box", x.cart(1, 2), 0);
        CHECKS.due("WOUNDS: 3 less 1", x.quarter(0, 4), 2);
        x.on(3);
        CHECKS.due("none is left", x.now(3), 1);
        CHECKS.due("7 away keeps its boxes", x.cart(2, 2), 9);
        OrangeFight empty = town("square 2 2;cart 0 0 0 9 0;", "");
        empty.on(4);
        CHECKS.due("at no QUARTER at all", empty.now(3), 0);
    }

    /** "Each box used by a QUARTER is 1 PULP more on the CART's CELL .., at once": so the next QUARTER may slip on it. */
    private static void atOnce() {
        OrangeFight x = town("square 9 2;quarter a 0 0 9 1;quarter b 1 0 9 1;cart 0 1 0 0 0;", "a 9 9;b 9 9;");
        OrangeFight y = town("square 9 2;quarter b 1 0 9 1;quarter a 0 0 9 1;cart 0 1 0 0 0;", "a 9 9;b 9 9;");
        int slips = 0;
        for (int seed = 0; seed < 90; seed++) {
            x.begin(seed);
            y.begin(seed);
            x.on(1);
            y.on(1);
            drawn = seed;
            draw(40);
            int second = draw(40) < 1 ? 1 : 3;
            slips += second == 1 ? 1 : 0;
            CHECKS.due("b behind a", x.thrown(1, 2), second);
            CHECKS.due("b ahead of a", y.thrown(0, 2), 3);
            CHECKS.due("a on a dry CELL", y.thrown(1, 2), 3);
        }
        CHECKS.due("some slipped", slips > 0, true);
    }

    /** CELL 9 is the end of its row and 10 begins the next one: no cap, drain or sand reaches over the edge. */
    private static void edgesAreNoNeighbours() {
        OrangeFight cap = town("square 10 10;quarter a 3 1 9 9;cart 0 0 1 0 0;cap 9 0;", "a 9 9;");
        cap.on(1);
        CHECKS.due("not BARRED", cap.thrown(0, 2), 4);
        OrangeFight drain = town("square 10 10;quarter a 0 1 0 1;quarter b 9 8 0 1;cart 0 0 1 9 0;cart 0 9 8 9 0;drain 9 0;drain 0 9;", "");
        drain.on(4);
        CHECKS.due("PULP right of the edge", drain.cell(10, 0), 8);
        CHECKS.due("PULP left of the edge", drain.cell(89, 0), 8);
        OrangeFight sand = town("square 10 10;quarter a 0 1 0 1;cart 0 0 1 9 0;cart 0 0 1 9 0;", "");
        sand.on(4);
        CHECKS.due("sand", sand.sand(9), true);
        CHECKS.due("it does not reach", sand.slippery(), 1);
        CHECKS.due("sand beside it", sand.sand(20), true);
        CHECKS.due("it does", sand.slippery(), 0);
        // In a smaller square, too: the CELLS beyond W and H are none.
        OrangeFight small = town("square 2 2;quarter a 1 1 0 1;cart 0 1 1 9 0;drain 0 0;drain 1 1;", "");
        small.on(1);
        CHECKS.due("one drain is near", small.cell(11, 0), 1);
    }

    /** "drains take 1 from their CELL and each neighbour": each of twelve, the last CELL, too. */
    private static void twelveDrains() {
        String text = "square 10 10;quarter a 9 9 0 1;quarter b 4 4 0 1;quarter c 0 0 0 1;cart 0 9 9 40 0;cart 0 0 0 40 0;"
            + "cart 0 4 4 40 0;cart 0 4 4 40 0;cart 0 4 4 40 0;"
            + "drain 0 0;drain 3 0;drain 6 0;drain 0 3;drain 3 2;drain 7 3;drain 4 4;drain 3 4;drain 5 4;drain 4 3;drain 4 5;drain 9 9;";
        OrangeFight x = town(text, "");
        x.on(1);
        CHECKS.due("the last CELL: 2 less 1", x.cell(99, 0), 1);
        CHECKS.due("the first CELL: 2 less 1", x.cell(0, 0), 1);
        CHECKS.due("among five drains: 6 less 5", x.cell(44, 0), 1);
        x.on(3);
        CHECKS.due("the last CELL", x.cell(99, 0), 4);
        CHECKS.due("among five", x.cell(44, 0), 4);
        x.on(1);
        CHECKS.due("not below 0", x.cell(44, 0), 0);
        x.on(3);
        CHECKS.due("all PULP is gone", x.now(7), 0);
        x.on(1);
        CHECKS.due("not below 0", x.now(7), 0);
    }

    /** "A new DAY begins without PULP; sand stays", "QUARTERS have their boxes for three DAYS". */
    private static void daysBeginAnew() {
        OrangeFight x = town("square 3 2;quarter a 0 0 5 1;cart 238 0 0 9 0;", "a 9 9;");
        x.sand(0);
        x.sand(12);
        x.on(239);
        CHECKS.due("PULP", x.now(7), 3);
        x.on(1);
        CHECKS.due("a new DAY", x.now(0) * 1000 + x.now(1), 1000);
        CHECKS.due("no PULP", x.now(7), 0);
        CHECKS.due("no PULP", x.cell(0, 0), 0);
        CHECKS.due("sand", x.cell(0, 5) + x.cell(12, 5), 2);
        CHECKS.due("the CART's boxes", x.cart(0, 2), 9);
        CHECKS.due("not the QUARTER's", x.quarter(0, 2), 3);
        CHECKS.due("WOUNDS stay", x.quarter(0, 4), 6);
        CHECKS.due("HITS stay", x.cart(0, 4), 6);
        x.on(480);
        CHECKS.due("boxes for three DAYS", x.quarter(0, 2), 0);
        CHECKS.due("so many used", x.now(2), 5);
        CHECKS.due("HITS of them all", x.cart(0, 4), 15);
    }

    /** "x becomes x * 1103515245 + 12345 (an int, wrapping), the draw is (x >>> 8) % n". */
    private static void wrappingSeeds() {
        OrangeFight x = town("square 9 2;quarter a 0 0 400 1;" + "cart 0 0 0 400 0;".repeat(3), "a 9 9;");
        for (int seed : SEEDS) {
            x.begin(seed);
            drawn = seed;
            for (int day = 0; day < 3; day++) {
                for (int minute = 0; minute < 4; minute++) {
                    x.on(1);
                    CHECKS.due("seed " + seed, x.thrown(0, 2), draw(40) < 7 * minute ? 1 : 3);
                }
                x.on(236);
            }
        }
    }

    /** "A new TOWN: no PLANS, no SENTENCE, DAY 0, MINUTE 0, seed 0, no sand." */
    private static void newTown() {
        String text = "square 3 2;quarter a 0 0 400 1;" + "cart 0 0 0 400 0;".repeat(3);
        OrangeFight fresh = town(text, "");
        int[] first = State.of(fresh);
        for (int seed : SEEDS) {
            OrangeFight x = town(text, "a 9 9 feint;");
            CHECKS.reads(x, 's', "feints", 1, 0);
            x.begin(seed);
            x.sand(11);
            x.on(483);
            CHECKS.reads(x, 't', text, 5, 0);
            CHECKS.due("as in a new object", State.same(State.of(x), first), true);
            tellPlans(x, "a 9 9;", 1);
            drawn = 0;
            for (int minute = 0; minute < 4; minute++) {
                x.on(1);
                CHECKS.due("by seed 0", x.thrown(0, 2), draw(40) < 7 * minute ? 1 : 3);
            }
        }
    }

    /** "The tape .. is the TOWN now": of one that was fuller nothing is left, not in what follows from it either. */
    private static void nothingOfTheOldTown() {
        String old = "square 10 10;quarter c 4 4 9 9;quarter b 1 1 9 9;quarter a 0 0 9 9;cart 0 1 0 9 0;cart 50 1 0 9 0;cart 90 1 1 9 0;"
            + "cap 1 0;cap 1 1;drain 0 0;drain 1 1;judge 0 1;judge 1 0;spot a 1 0;spot c 9 9;law 9 9 9 9;";
        String text = "square 3 2;quarter a 0 0 9 1;quarter b 2 1 9 1;cart 20 1 0 2 0;cart 52 0 0 9 0;judge 0 0;";
        OrangeFight x = town(old, "a 9 9;b 9 9 feint;c 9 9;");
        x.on(500);
        CHECKS.reads(x, 't', text, 6, 0);
        OrangeFight fresh = new OrangeFight();
        CHECKS.reads(fresh, 't', text, 6, 0);
        tellPlans(x, "a 2 9;b 2 1 feint;", 2);
        tellPlans(fresh, "a 2 9;b 2 1 feint;", 2);
        for (int q = 0; q < 2; q++) {
            CHECKS.due("sure(" + q + ")", x.sure(q), fresh.sure(q));
            CHECKS.due("best(" + q + ")", x.best(q), fresh.best(q));
            for (int minute : new int[] {0, 1, 20, 23, 24, 50, 52, 55, 56, 90}) {
                CHECKS.due("aims(" + q + ", " + minute + ")", x.aims(q, minute), fresh.aims(q, minute));
            }
        }
        CHECKS.due("order", x.order(), fresh.order());
        for (int n : new int[] {1, 20, 40}) {
            x.on(n);
            fresh.on(n);
            CHECKS.due("alike behind " + n + " MINUTES more", State.same(State.of(x), State.of(fresh)), true);
        }
    }

    /** "The three DAYS begin anew, by a seed: boxes as told, no marks, WOUNDS, PULP, HITS." */
    private static void beginsAnew() {
        String text = "square 3 2;quarter a 0 0 7 1;quarter b 2 1 9 2;cart 0 0 0 5 0;cart 1 2 1 5 0;judge 0 0;drain 2 0;";
        OrangeFight x = town(text, "a 9 2;b 9 1 feint;");
        CHECKS.reads(x, 's', "boxes>8", 1, 0);
        x.sand(2);
        x.begin(77);
        int[] first = State.of(x);
        int[] times = {1, 2, 3, 4, 239, 240, 243, 482, 720};
        for (int n : times) {
            x = town(text, "a 9 2;b 9 1 feint;");
            CHECKS.reads(x, 's', "boxes>8", 1, 0);
            x.sand(2);
            x.begin(77);
            x.on(n);
            x.begin(77);
            CHECKS.due("anew behind " + n + " MINUTES", State.same(State.of(x), first), true);
        }
        // By the same seed it goes the same way, by EACH counted anew.
        x.on(4);
        int[] four = State.of(x);
        x.begin(77);
        x.on(4);
        CHECKS.due("alike again", State.same(State.of(x), four), true);
    }

    /** "n (1 to 720) MINUTES go by: how many did (behind the last of DAY 2 none do); NONE: not as told." */
    private static void onEdges() {
        OrangeFight x = town("square 2 2;quarter a 0 0 9 9;cart 0 1 1 9 0;", "a 9 9;");
        int[] wrong = {0, -1, 721, Integer.MIN_VALUE, Integer.MAX_VALUE};
        x.on(2);
        for (int n : wrong) {
            CHECKS.due("on(" + n + ")", x.on(n), -1);
            CHECKS.due("none went by", x.now(1), 2);
            CHECKS.due("the latest MINUTE", x.thrown(0, 0), 0);
        }
        x.begin(0);
        CHECKS.due("on(720)", x.on(720), 720);
        CHECKS.due("on(720) again", x.on(720), 0);
        CHECKS.due("on(1) again", x.on(1), 0);
        CHECKS.due("on(721) is not as told", x.on(721), -1);
        x.begin(0);
        CHECKS.due("on(719)", x.on(719), 719);
        CHECKS.due("the last MINUTE is next", x.now(0) * 1000 + x.now(1), 2239);
        CHECKS.due("on(2)", x.on(2), 1);
        CHECKS.due("all are gone", x.now(0) * 1000 + x.now(1), 3240);
        x.begin(0);
        CHECKS.due("on(240)", x.on(240), 240);
        CHECKS.due("the first MINUTE of DAY 1", x.now(0) * 1000 + x.now(1), 1000);
        CHECKS.due("on(481)", x.on(481), 480);
    }

    /** "(3: all are gone)", "(240: none)": no MINUTE is next, so none AIMS, JOINS or is there in it. */
    private static void lastOfDayTwo() {
        OrangeFight x = town("square 9 2;quarter a 0 0 400 9;quarter b 1 0 400 9;cart 239 1 1 400 0;cart 237 8 1 400 0;", "a 9 9;b 9 9;");
        CHECKS.reads(x, 's', "joins a", 1, 0);
        x.on(719);
        CHECKS.due("b joins a in the last MINUTE", x.said(0), 1);
        x.on(1);
        CHECKS.due("the DAY", x.now(0), 3);
        CHECKS.due("the MINUTE", x.now(1), 240);
        CHECKS.due("none joins", x.said(-1), 0);
        CHECKS.due("none is there", x.cart(0, 5) + x.cart(1, 5), 0);
        CHECKS.due("aims in MINUTE 240", x.aims(0, 240), -1);
    }

    /** "NONE for another what." */
    private static void nowEdges() {
        OrangeFight x = town("square 2 2;", "");
        int[] others = {-1, 8, Integer.MIN_VALUE, Integer.MAX_VALUE};
        for (int what : others) {
            CHECKS.due("now(" + what + ")", x.now(what), -1);
        }
    }

    /** "Of the k-th throw of QUARTERS in the latest MINUTE", "NONE: there is none such." */
    private static void thrownEdges() {
        OrangeFight x = town("square 2 2;quarter a 0 0 9 1;quarter b 1 0 9 1;cart 0 1 1 0 0;", "b 9 9;");
        int[] others = {-1, 1, 9, Integer.MIN_VALUE, Integer.MAX_VALUE};
        CHECKS.due("ahead of any MINUTE", x.thrown(0, 0), -1);
        x.on(4);
        thrown(x, 0, 1, 0, 3, 3, 0, 0);
        for (int k : others) {
            CHECKS.due("thrown(" + k + ", 0)", x.thrown(k, 0), -1);
        }
        for (int what : new int[] {-1, 6, Integer.MIN_VALUE, Integer.MAX_VALUE}) {
            CHECKS.due("thrown(0, " + what + ")", x.thrown(0, what), -1);
        }
        x.on(1);
        CHECKS.due("a MINUTE without throws", x.thrown(0, 0), -1);
        x.begin(0);
        x.on(1);
        CHECKS.due("of that MINUTE", x.thrown(0, 0), 1);
        x.begin(0);
        CHECKS.due("no MINUTE has gone by", x.thrown(0, 0), -1);
    }

    /** "Sand on a CELL: true; false: no such one, there is." */
    private static void sandEdges() {
        OrangeFight x = town("square 10 10;", "");
        for (int at = 0; at < 100; at++) {
            CHECKS.due("sand(" + at + ")", x.sand(at), true);
        }
        for (int at = 0; at < 100; at++) {
            CHECKS.due("sand(" + at + ") again", x.sand(at), false);
        }
        for (int at : new int[] {-1, 100, Integer.MIN_VALUE, Integer.MAX_VALUE}) {
            CHECKS.due("sand(" + at + ")", x.sand(at), false);
        }
        OrangeFight y = town("square 2 3;", "");
        int many = 0;
        for (int at = -5; at < 105; at++) {
            many += y.sand(at) ? 1 : 0;
        }
        CHECKS.due("so many CELLS", many, 6);
        CHECKS.due("sand on the last", y.cell(21, 5), 1);
    }

    /** "if it were a MINUTE (of this DAY, by what it used); NONE: at none (no plan, no box), no such ones." */
    private static void aimsEdges() {
        OrangeFight x = town("square 3 3;quarter a 0 0 9 1;quarter b 1 0 0 1;quarter c 2 0 9 1;cart 0 1 1 0 0;cart 239 1 1 0 0;cap 1 1;",
            "a 9 1;b 9 9;");
        CHECKS.due("the first MINUTE", x.aims(0, 0), 0);
        CHECKS.due("the last MINUTE", x.aims(0, 239), 1);
        for (int minute : new int[] {-1, 240, 241, 242, Integer.MIN_VALUE, Integer.MAX_VALUE}) {
            CHECKS.due("aims(0, " + minute + ")", x.aims(0, minute), -1);
        }
        for (int q : new int[] {-1, 3, 9, Integer.MIN_VALUE, Integer.MAX_VALUE}) {
            CHECKS.due("aims(" + q + ", 0)", x.aims(q, 0), -1);
        }
        CHECKS.due("no box", x.aims(1, 0), -1);
        CHECKS.due("no plan", x.aims(2, 0), -1);
        x.on(239);
        CHECKS.due("what is gone by may be asked, too: used", x.aims(0, 0), -1);
        x.on(1);
        CHECKS.due("another DAY", x.aims(0, 0), 0);
        // What is BARRED is AIMED at all the same.
        OrangeFight y = town("square 9 3;quarter a 0 0 9 1;cart 0 3 0 0 0;cap 3 0;", "a 9 1;");
        y.on(3);
        CHECKS.due("BARRED", y.aims(0, 3), 0);
    }

    /** Twenty CARTS, never two at once: a DAY of eighty MINUTES in which one is there, up to the last one of the DAY. */
    private static void eightyMinutes() {
        StringBuilder text = new StringBuilder("square 9 2;quarter a 0 0 400 1;quarter b 0 1 400 1;judge 0 0;");
        for (int c = 0; c < 20; c++) {
            text.append("cart ").append(c == 19 ? 236 : 5 * c).append(" 1 0 0 0;");
        }
        OrangeFight x = town(text.toString(), "a 9 9;b 9 9;");
        for (int q = 0; q < 2; q++) {
            CHECKS.due("a SURE DAY", x.sure(q), 80 * 6);
            CHECKS.due("the last one", x.aims(q, 239), 19);
        }
        x.on(240);
        CHECKS.due("boxes", x.now(2), 160);
        CHECKS.due("marks", x.quarter(0, 3), 80 * 6);
        CHECKS.due("marks", x.quarter(1, 3), 80 * 6);
        CHECKS.due("HITS on the last one", x.cart(19, 4), 24);
    }

    /** "NONE: no such CART." A HIT that none can have: none. */
    private static void whoEdges() {
        OrangeFight x = town("square 10 10;quarter a 0 0 9 9;quarter b 0 1 0 9;cart 100 0 0 0 0;cart 0 9 9 0 9;", "");
        for (int c : new int[] {-1, 2, 20, Integer.MIN_VALUE, Integer.MAX_VALUE}) {
            CHECKS.due("who(" + c + ", 0)", x.who(c, 0), -1);
        }
        CHECKS.due("a HIT of 11", x.who(0, 11), 1);
        CHECKS.due("of 0 by one far away", x.who(1, 0), 1);
        for (int hit : new int[] {-1, 10, 12, Integer.MIN_VALUE, Integer.MAX_VALUE}) {
            CHECKS.due("who(0, " + hit + ")", x.who(0, hit), 0);
        }
        // All nine.
        StringBuilder nine = new StringBuilder("square 9 2;cart 0 4 1 0 9;");
        for (int q = 0; q < 9; q++) {
            nine.append("quarter ").append((char) ('a' + q)).append(' ').append(q).append(" 0 1 1;");
        }
        CHECKS.due("nine", town(nine.toString(), "").who(0, 0), 511);
    }

    /** "Of n (1 to 60) seeds x, x and 1, ..", "NONE: not as told." */
    private static void oddsEdges() {
        // By a law of HURT alone each slip brings more marks.
        OrangeFight x = town("square 3 3;quarter a 1 1 400 9;cart 0 1 1 400 0;cart 0 1 1 400 0;judge 0 0;law 0 0 0 9;", "a 9 9;");
        int from = Integer.MAX_VALUE - 29;
        int all = 0;
        for (int i = 0; i < 60; i++) {
            int one = x.odds(0, 1, from + i);
            drawn = from + i;
            boolean slips = false;
            int pulp = 0;
            for (int minute = 0; minute < 4; minute++) {
                slips |= draw(40) < pulp;
                pulp += 5;
            }
            CHECKS.due("odds(0, 1, " + (from + i) + ")", one, slips);
            all += one;
        }
        CHECKS.due("some slipped, some not", all > 0 && all < 60, true);
        CHECKS.due("60 seeds, over the greatest int", x.odds(0, 60, from), all);
        for (int n : new int[] {0, -1, 61, Integer.MIN_VALUE, Integer.MAX_VALUE}) {
            CHECKS.due("odds(0, " + n + ", 0)", x.odds(0, n, 0), -1);
        }
        for (int q : new int[] {-1, 1, 9, Integer.MIN_VALUE, Integer.MAX_VALUE}) {
            CHECKS.due("odds(" + q + ", 1, 0)", x.odds(q, 1, 0), -1);
        }
        // As many marks are not more.
        OrangeFight y = town("square 3 3;quarter a 1 1 400 9;cart 0 1 1 400 0;judge 0 0;law 0 0 0 0;", "a 9 9;");
        CHECKS.due("as many", y.odds(0, 60, 0), 0);
    }

    /** What is so goes on behind odds() as if it had not been asked. */
    private static void oddsChangeNothing() {
        String text = "square 3 2;quarter a 0 0 400 9;cart 0 0 0 400 0;cart 0 1 1 400 0;judge 0 0;";
        OrangeFight x = town(text, "a 9 9 feint;");
        OrangeFight y = town(text, "a 9 9 feint;");
        x.begin(31);
        y.begin(31);
        x.on(2);
        y.on(2);
        x.odds(0, 60, 5);
        CHECKS.due("nothing changed", State.same(State.of(x), State.of(y)), true);
        x.on(2);
        y.on(2);
        CHECKS.due("nor does it later", State.same(State.of(x), State.of(y)), true);
    }

    /** "how many (k NONE), or the k-th. NONE: there is no SENTENCE, none such." */
    private static void saidEdges() {
        StringBuilder nine = new StringBuilder("square 9 2;");
        for (int q = 0; q < 9; q++) {
            nine.append("quarter ").append((char) ('a' + q)).append(' ').append(q).append(" 0 1 1;");
        }
        OrangeFight x = town(nine.toString(), "");
        int[] others = {-2, 9, Integer.MIN_VALUE, Integer.MAX_VALUE};
        CHECKS.due("no SENTENCE", x.said(-1), -1);
        CHECKS.due("no SENTENCE", x.said(0), -1);
        CHECKS.reads(x, 's', "aim=1", 1, 0);
        CHECKS.due("of all nine", x.said(-1), 9);
        for (int q = 0; q < 9; q++) {
            CHECKS.due("said(" + q + ")", x.said(q), q);
        }
        for (int k : others) {
            CHECKS.due("said(" + k + ")", x.said(k), -1);
        }
        CHECKS.reads(x, 's', "aim>1", 1, 0);
        CHECKS.due("of none", x.said(-1), 0);
        CHECKS.due("the first of none", x.said(0), -1);
        CHECKS.reads(x, 's', "place=8", 1, 0);
        CHECKS.due("of the last alone", x.said(0), 8);
        // "<", "=" and ">" at the very number.
        String[] signs = {"place<4", "place=4", "place>4"};
        int[] many = {4, 1, 4};
        for (int i = 0; i < 3; i++) {
            CHECKS.reads(x, 's', signs[i], 1, 0);
            CHECKS.due("said of " + signs[i], x.said(-1), many[i]);
        }
    }

    /** "20 ONES": the first and the last one of them count. */
    private static void saidOfTwenty() {
        OrangeFight x = town("square 9 2;quarter a 0 0 1 1;quarter b 1 0 1 1;", "");
        String never = "aim<1 or ";
        String ever = "aim=1 and ";
        CHECKS.reads(x, 's', never.repeat(19) + "place=1", 20, 0);
        CHECKS.due("the last of 20 by or", x.said(-1) * 10 + x.said(0), 11);
        CHECKS.reads(x, 's', "place=1 or " + never.repeat(18) + "aim<1", 20, 0);
        CHECKS.due("the first of 20 by or", x.said(-1) * 10 + x.said(0), 11);
        CHECKS.reads(x, 's', ever.repeat(18) + "place=1", 19, 0);
        CHECKS.due("the last of 19 by and", x.said(-1) * 10 + x.said(0), 11);
        CHECKS.reads(x, 's', "place=1 and " + ever.repeat(17) + "aim=1", 19, 0);
        CHECKS.due("the first of 19 by and", x.said(-1) * 10 + x.said(0), 11);
        CHECKS.reads(x, 's', "aim=1 and ".repeat(19) + "aim=1", 20, 0);
        CHECKS.due("twenty by and", x.said(-1), 2);
        CHECKS.reads(x, 's', "not not not not not not not place=1", 8, 0);
        CHECKS.due("seven nots", x.said(-1) * 10 + x.said(0), 10);
        CHECKS.reads(x, 's', "(((((((place=1)))))))", 8, 0);
        CHECKS.due("seven brackets", x.said(-1) * 10 + x.said(0), 11);
        CHECKS.reads(x, 's', "place=0 and(aim<1 or(aim=1 and(aim<1 or(aim=1 and(aim<1 or(aim=1 and aim=1))))))", 14, 0);
        CHECKS.due("to the right", x.said(-1) * 10 + x.said(0), 10);
    }

    /** "'joins' QUARTER (another one; both would AIM at one CART in the next MINUTE)". */
    private static void joinsAnother() {
        OrangeFight x = town("square 9 2;quarter a 0 0 1 1;quarter b 1 0 1 1;quarter c 8 0 1 1;cart 0 2 0 0 0;cart 1 8 1 0 0;",
            "a 9 1;b 9 1;c 2 1;");
        CHECKS.reads(x, 's', "joins a", 1, 0);
        CHECKS.due("b, not a itself", x.said(-1) * 10 + x.said(0), 11);
        CHECKS.reads(x, 's', "joins c", 1, 0);
        CHECKS.due("c AIMS at none in MINUTE 0", x.said(-1), 0);
        x.on(1);
        CHECKS.due("c AIMS alone in MINUTE 1", x.said(-1), 0);
        CHECKS.reads(x, 's', "joins a", 1, 0);
        CHECKS.due("neither has a box", x.said(-1), 0);
    }

    /** "true; false: no such one", "false: no such one, or nothing is kept there". */
    private static void imageEdges() {
        OrangeFight x = town("square 3 2;quarter a 0 0 9 9;cart 0 1 1 9 0;", "a 9 9;");
        x.on(1);
        int[] before = State.of(x);
        int[] others = {-1, 2, 3, Integer.MIN_VALUE, Integer.MAX_VALUE};
        for (int k : others) {
            CHECKS.due("image(" + k + ")", x.image(k), false);
            CHECKS.due("restore(" + k + ")", x.restore(k), false);
        }
        CHECKS.due("nothing in 0", x.restore(0), false);
        CHECKS.due("nothing in 1", x.restore(1), false);
        CHECKS.due("nothing changed", State.same(State.of(x), before), true);
        // Of a new object, too: an empty TOWN is kept.
        OrangeFight y = new OrangeFight();
        CHECKS.due("image(0)", y.image(0), true);
        CHECKS.reads(y, 't', "square 2 2;", 1, 0);
        CHECKS.due("restore(1)", y.restore(1), false);
        CHECKS.due("restore(0)", y.restore(0), true);
        CHECKS.due("an empty TOWN", y.count(0), 0);
    }

    /** "TOWN, PLANS, SENTENCE and all that is so are kept": each of them comes back, the draws go on, none is kept twice. */
    private static void imagesKeepAll() {
        String text = "square 3 2;quarter a 0 0 400 9;quarter b 2 1 40 2;cart 0 0 0 400 0;cart 1 1 1 400 1;cart 239 2 0 3 0;judge 0 0;"
            + "cap 2 0;drain 1 0;spot b 0 1;law 2 3 4 5;";
        OrangeFight x = town(text, "a 9 3 feint;b 9 9;");
        CHECKS.reads(x, 's', "feints or marks>9", 2, 0);
        x.begin(99);
        x.sand(5);
        x.sand(12);
        x.on(244);
        int[] then = State.of(x);
        int sure = x.sure(0);
        CHECKS.due("image(0)", x.image(0), true);
        x.on(1);
        int[] next = State.of(x);
        int marks = x.quarter(0, 3) * 1000 + x.quarter(1, 3);
        CHECKS.due("it went on", State.same(then, next), false);
        CHECKS.reads(x, 't', "square 2 9;quarter c 1 8 7 7;law 9 9 9 9;", 3, 0);
        x.sand(0);
        CHECKS.due("restore(0)", x.restore(0), true);
        CHECKS.due("all is as then", State.same(State.of(x), then), true);
        CHECKS.due("the law", x.sure(0), sure);
        x.on(1);
        CHECKS.due("it goes on alike", State.same(State.of(x), next), true);
        CHECKS.due("restore(0) again", x.restore(0), true);
        x.on(1);
        CHECKS.due("and alike again", x.quarter(0, 3) * 1000 + x.quarter(1, 3), marks);
    }

    /** "all that is so": what the seed has become, too, and what was used by EACH. */
    private static void imagesKeepDraws() {
        OrangeFight x = town("square 9 2;quarter a 0 0 400 1;" + "cart 0 0 0 400 0;".repeat(3), "a 9 1;");
        int slips = 0;
        for (int seed = 0; seed < 30; seed++) {
            x.begin(seed);
            x.on(241);
            x.image(1);
            x.on(1);
            int kind = x.thrown(0, 2);
            CHECKS.due("the second CART", x.thrown(0, 1), 1);
            x.begin(seed + 77);
            x.on(242);
            CHECKS.due("restore(1)", x.restore(1), true);
            x.on(1);
            CHECKS.due("the second CART again", x.thrown(0, 1), 1);
            CHECKS.due("by the same draw", x.thrown(0, 2), kind);
            slips += kind == 1 ? 1 : 0;
        }
        CHECKS.due("some slipped, some not", slips > 0 && slips < 30, true);
    }

    /** "in place k (0, 1)": two places, each kept over anew; what is told last and the tape stay. */
    private static void twoImages() {
        OrangeFight x = town("square 3 2;quarter a 0 0 9 9;cart 0 1 1 9 0;", "a 9 9;");
        x.image(0);
        x.on(1);
        x.image(1);
        x.on(1);
        CHECKS.due("restore(0)", x.restore(0), true);
        CHECKS.due("MINUTE 0", x.now(1), 0);
        CHECKS.due("restore(1)", x.restore(1), true);
        CHECKS.due("MINUTE 1", x.now(1), 1);
        CHECKS.due("its throw", x.thrown(0, 2), 3);
        x.on(2);
        x.image(0);
        CHECKS.due("restore(1)", x.restore(1), true);
        CHECKS.due("MINUTE 1", x.now(1), 1);
        CHECKS.due("restore(0)", x.restore(0), true);
        CHECKS.due("MINUTE 3", x.now(1), 3);
        Checks.put(x, 0, 0, 1, 7);
        CHECKS.due("days", x.days(1), 7);
        Checks.put(x, 0, 0, 0, 0, 100);
        CHECKS.due("look", x.look(), 10000);
        CHECKS.due("order", x.order(), 0);
        CHECKS.reads(x, 's', "or", -1, 1);
        Checks.put(x, 1, 2, 3, 4);
        CHECKS.due("restore(1)", x.restore(1), true);
        CHECKS.due("rows stay", x.rows(2), 1);
        CHECKS.due("held stays", x.held(5), 5);
        CHECKS.due("comes stays", x.comes(0), 0);
        CHECKS.due("fault stays", x.fault(), 1);
        CHECKS.due("the tape stays", x.count(8), 4);
    }
}
