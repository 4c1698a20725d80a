/** Promises 16 to 18, 21 to 23 and 32 to 34: what SURE DAYS bring, with answers worked out by hand. */
public final class SureDaysTest {
    private static final Checks CHECKS = new Checks();
    private static final int NO = OrangeFight.NONE - 10000;
    private static final String TOWN = "square 6 4;quarter a 0 0 10 5;quarter b 3 0 10 3;cart 0 1 0 2 1;cart 1 5 3 1 0;"
        + "cap 5 2;drain 0 1;judge 0 2;judge 3 1;spot a 5 1;law 2 1 3 4;";

    public static void main(String[] args) {
        sure();
        grid();
        best();
        stand();
        rests();
        join();
        table();
        nothingChanges();
        CHECKS.close();
    }

    private static OrangeFight town(String text, String plans) {
        return CHECKS.inTown(text, plans);
    }

    private static void sure() {
        OrangeFight x = town(TOWN, "a 3 2;b 9 5 feint;");
        CHECKS.due("sure(0)", x.sure(0), 62);
        CHECKS.due("sure(1)", x.sure(1), 27);
        CHECKS.due("sure(2)", x.sure(2), NO);
        CHECKS.due("sure(-1)", x.sure(-1), NO);
        // One DAY uses all boxes that it can: 2 boxes, then none; PULP that would make it slip counts nothing.
        OrangeFight y = town("square 3 3;quarter a 1 1 2 1;cart 0 1 1 400 0;cart 0 1 1 400 0;cart 90 1 1 400 0;judge 0 0;",
            "a 9 9;");
        CHECKS.due("two boxes", y.sure(0), 10);
        y.on(720);
        CHECKS.due("two boxes still", y.sure(0), 10);
        OrangeFight z = town("square 3 3;quarter a 1 1 99 1;cart 239 1 1 400 0;judge 0 0;", "a 9 9;");
        CHECKS.due("one MINUTE of a DAY, the first one", z.sure(0), 5);
    }

    private static void grid() {
        OrangeFight x = town(TOWN, "a 3 2;b 9 5 feint;");
        CHECKS.due("grid(0, 3, 2)", x.grid(0, 3, 2), 62);
        CHECKS.due("grid(0, 3, 9)", x.grid(0, 3, 9), 124);
        CHECKS.due("grid(0, 0, 99)", x.grid(0, 0, 99), 0);
        CHECKS.due("grid(0, 18, 0)", x.grid(0, 18, 0), 0);
        // Feints as told: so b has in MINUTE 0 its 13, and no more.
        CHECKS.due("grid(1, 2, 1)", x.grid(1, 2, 1), 13);
        CHECKS.due("grid(0, 19, 0)", x.grid(0, 19, 0), NO);
        CHECKS.due("grid(0, 0, 100)", x.grid(0, 0, 100), NO);
        CHECKS.due("grid(0, -1, 0)", x.grid(0, -1, 0), NO);
        CHECKS.due("grid(0, 0, -1)", x.grid(0, 0, -1), NO);
        CHECKS.due("grid(2, 0, 0)", x.grid(2, 0, 0), NO);
        CHECKS.due("grid(-1, 0, 0)", x.grid(-1, 0, 0), NO);
        CHECKS.due("the PLANS stay", x.sure(0), 62);
        OrangeFight y = town(TOWN, "a 3 2;");
        // Without a plan of its own b throws in four MINUTES, JOINED in the first two.
        CHECKS.due("grid(1, 2, 9)", y.grid(1, 2, 9), 13 + 13 + 10 + 10);
    }

    private static void best() {
        OrangeFight x = town(TOWN, "a 3 2;b 9 5 feint;");
        CHECKS.due("best(0)", x.best(0), 104);
        CHECKS.due("best(1)", x.best(1), 202);
        CHECKS.due("best(2)", x.best(2), -1);
        CHECKS.due("best(-1)", x.best(-1), -1);
        CHECKS.due("none has marks", town("square 2 2;quarter a 0 0 1 1;", "").best(0), 0);
        CHECKS.due("farther than 12 is not looked at",
            town("square 10 10;quarter a 0 0 9 9;cart 0 9 4 0 0;judge 0 0;law 0 0 0 0;", "").best(0), 0);
        // 12 away with a HIT of 0: JOINED to the other one it has marks, by 4 boxes.
        OrangeFight y = town("square 10 10;quarter a 0 0 9 9;quarter b 9 4 9 9;cart 0 9 3 0 0;judge 0 0;", "b 9 9;");
        CHECKS.due("12 is looked at", y.best(0), 1204);
        OrangeFight z = town("square 10 10;quarter a 0 0 9 9;quarter b 9 4 9 9;cart 0 9 4 0 0;judge 0 0;", "b 9 9;");
        CHECKS.due("13 is not", z.best(0), 0);
        CHECKS.due("but the GRID has it", z.grid(0, 13, 2), 2);
        CHECKS.due("one mark is more than none",
            town("square 2 2;quarter a 0 0 1 1;cart 0 0 1 0 2;judge 0 0;law 1 0 0 0;", "").best(0), 101);
        // Marks below 0: best is to throw none.
        CHECKS.due("less is worse", town("square 2 2;quarter a 0 0 9 9;cart 0 0 0 0 0;judge 0 0;law 0 0 0 1;", "a 9 9;").best(0), 0);
    }

    private static void stand() {
        OrangeFight x = town(TOWN, "a 3 2;b 9 5 feint;");
        CHECKS.due("stand(0, 0)", x.stand(0, 0), 62);
        CHECKS.due("stand(0, 1)", x.stand(0, 1), 24);
        // b is no more JOINED in MINUTE 0: 3 less.
        CHECKS.due("stand(1, 1)", x.stand(1, 1), 24);
        CHECKS.due("stand(0, 2)", x.stand(0, 2), NO);
        CHECKS.due("stand(0, 4)", x.stand(0, 4), NO);
        CHECKS.due("stand(0, 512)", x.stand(0, 512), NO);
        CHECKS.due("stand(0, -1)", x.stand(0, -1), NO);
        CHECKS.due("stand(2, 0)", x.stand(2, 0), NO);
        CHECKS.due("stand(-1, 0)", x.stand(-1, 0), NO);
        CHECKS.due("it stands where it stood", x.quarter(0, 0), 0);
        CHECKS.due("and is sure of as much", x.sure(0), 62);
    }

    private static void rests() {
        OrangeFight x = town(TOWN, "a 3 2;b 9 5 feint;");
        CHECKS.due("rests(-1)", x.rests(-1), 1);
        CHECKS.due("rests(0)", x.rests(0), 0);
        CHECKS.due("rests(1)", x.rests(1), -1);
        CHECKS.due("rests(-2)", x.rests(-2), -1);
        // b and c have marks by JOIN alone, and only where both stand alike: none or both is at REST, one alone is not.
        String two = "square 9 2;quarter a 4 1 9 1;quarter b 0 0 9 9;quarter c 0 1 9 9;cart 0 0 0 0 0;cart 0 8 0 0 0;"
            + "spot b 8 1;spot c 8 0;judge 0 0;judge 8 0;law 0 0 1 0;";
        OrangeFight y = town(two, "b 3 9;c 3 9;");
        CHECKS.due("rests(-1)", y.rests(-1), 2);
        CHECKS.due("rests(0)", y.rests(0), 0);
        CHECKS.due("rests(1)", y.rests(1), 6);
        CHECKS.due("rests(2)", y.rests(2), -1);
        CHECKS.due("stand(1, 6)", y.stand(1, 6), 4);
        CHECKS.due("stand(1, 2)", y.stand(1, 2), 0);
        // With as many marks here as there each choice is at REST, of 6 QUARTERS at most.
        StringBuilder many = new StringBuilder("square 9 2;");
        for (int q = 0; q < 7; q++) {
            many.append("quarter ").append((char) ('a' + q)).append(" ").append(q).append(" 0 1 1;");
        }
        for (int q = 6; q > 0; q--) {
            many.append("spot ").append((char) ('a' + q)).append(" 8 1;");
        }
        OrangeFight six = town(many.toString(), "");
        CHECKS.due("six: rests(-1)", six.rests(-1), 64);
        CHECKS.due("six: rests(63)", six.rests(63), 126);
        CHECKS.due("six: rests(1)", six.rests(1), 2);
        CHECKS.due("six: rests(64)", six.rests(64), -1);
        OrangeFight seven = town(many + "spot a 0 0;", "");
        CHECKS.due("seven: rests(-1)", seven.rests(-1), -1);
        CHECKS.due("seven: rests(0)", seven.rests(0), -1);
        CHECKS.due("seven: stand(0, 127)", seven.stand(0, 127), 0);
    }

    private static void join() {
        OrangeFight x = town(TOWN, "a 3 2;b 9 5 feint;");
        CHECKS.due("join(0, 1)", x.join(0, 1), 9);
        CHECKS.due("join(1, 0)", x.join(1, 0), 5);
        CHECKS.due("join(0, 0)", x.join(0, 0), NO);
        CHECKS.due("join(0, 2)", x.join(0, 2), NO);
        CHECKS.due("join(2, 0)", x.join(2, 0), NO);
        CHECKS.due("join(-1, 0)", x.join(-1, 0), NO);
        CHECKS.due("the PLANS stay", x.quarter(0, 7), 2);
        OrangeFight y = town(TOWN, "a 3 2;");
        CHECKS.due("b has no plan", y.join(0, 1), NO);
        // a alone has 56; with b in both MINUTES 68 and b's 26.
        CHECKS.due("a plan for the one without", y.join(1, 0), 68 + 26 - 56);
    }

    private static void table() {
        OrangeFight x = town(TOWN, "a 3 2;b 9 5 feint;");
        CHECKS.due("reply ahead of any", x.reply(0), -1);
        CHECKS.due("against ahead of any", x.against(0, 0, 0), NO);
        Checks.put(x, 3, 2, 3, 9, 0, 0);
        CHECKS.due("table", x.table(), 3);
        CHECKS.due("the tape is empty", x.count(8), 0);
        int[][] first = {{68, 68, 56}, {124, 136, 112}, {0, 0, 0}};
        int[][] second = {{26, 46, 0}, {26, 52, 0}, {20, 40, 0}};
        for (int i = 0; i < 3; i++) {
            for (int j = 0; j < 3; j++) {
                CHECKS.due("against(" + i + ", " + j + ", 0)", x.against(i, j, 0), first[i][j]);
                CHECKS.due("against(" + i + ", " + j + ", 1)", x.against(i, j, 1), second[i][j]);
            }
            CHECKS.due("reply(" + i + ")", x.reply(i), 1);
        }
        CHECKS.due("against(3, 0, 0)", x.against(3, 0, 0), NO);
        CHECKS.due("against(0, 3, 0)", x.against(0, 3, 0), NO);
        CHECKS.due("against(-1, 0, 0)", x.against(-1, 0, 0), NO);
        CHECKS.due("against(0, -1, 0)", x.against(0, -1, 0), NO);
        CHECKS.due("against(0, 0, 2)", x.against(0, 0, 2), NO);
        CHECKS.due("against(0, 0, -1)", x.against(0, 0, -1), NO);
        CHECKS.due("reply(3)", x.reply(3), -1);
        CHECKS.due("reply(-1)", x.reply(-1), -1);
        int[][] wrong = {{}, {3}, {3, 2, 3}, {19, 1}, {1, 100}, {1, 1, 18, 99, 255, 1}, {1, 1, 1, 1, 1, 1, 1, 1, 1, 1, 1, 1, 1, 1}};
        for (int[] row : wrong) {
            Checks.put(x, row);
            CHECKS.due("table of " + row.length + " wrong bytes", x.table(), -1);
            CHECKS.due("the tape is empty", x.count(8), 0);
            CHECKS.due("the latest good one", x.against(1, 1, 0), 136);
        }
        Checks.put(x, 18, 99, 18, 99, 0, 0, 1, 1, 1, 1, 1, 1);
        CHECKS.due("six plans", x.table(), 6);
        CHECKS.due("of like ones the first", x.reply(5), 0);
        Checks.put(x, 0, 0);
        CHECKS.due("one plan", x.table(), 1);
        CHECKS.due("no second one", x.against(1, 0, 0), NO);
        OrangeFight y = town("square 2 2;quarter a 0 0 1 1;", "");
        Checks.put(y, 1, 1);
        CHECKS.due("one QUARTER", y.table(), -1);
        CHECKS.due("the tape is empty", y.count(8), 0);
    }

    /** SURE DAYS are of the TOWN and the PLANS alone, wherever the three DAYS are, and leave them there. */
    private static void nothingChanges() {
        OrangeFight x = town(TOWN, "a 3 2;b 9 5 feint;");
        x.begin(5);
        x.on(3);
        x.sand(0);
        int[] before = state(x);
        CHECKS.due("sure(0)", x.sure(0), 62);
        CHECKS.due("best(0)", x.best(0), 104);
        CHECKS.due("grid(0, 3, 9)", x.grid(0, 3, 9), 124);
        CHECKS.due("stand(0, 1)", x.stand(0, 1), 24);
        CHECKS.due("rests(0)", x.rests(0), 0);
        CHECKS.due("join(0, 1)", x.join(0, 1), 9);
        int[] behind = state(x);
        for (int i = 0; i < before.length; i++) {
            CHECKS.due("state " + i, behind[i], before[i]);
        }
    }

    private static int[] state(OrangeFight x) {
        return new int[] {x.now(0), x.now(1), x.now(2), x.now(3), x.now(4), x.now(7), x.quarter(0, 2), x.quarter(0, 3),
            x.quarter(1, 3), x.quarter(1, 5), x.quarter(0, 6), x.quarter(0, 0), x.cart(0, 2), x.cart(0, 4), x.thrown(0, 2)};
    }
}
