/**
 * The sentences on SURE DAYS and puzzles (promises 16 to 34, the third part of Terms) that name an edge: one test for
 * each, with the sentence above it. What SureDaysTest and PuzzlesTest hold already is not told here again.
 */
public final class AnswerEdgesTest {
    private static final Checks CHECKS = new Checks();
    private static final int NO = OrangeFight.NONE - 10000;
    private static final int[] FAR_OFF = {Integer.MIN_VALUE, Integer.MIN_VALUE + 1, -2, 512, 1 << 30, Integer.MAX_VALUE};
    /** On a DAY, by EACH 1, one NEAR throw of HIT 3 in MINUTE 0 and one in MINUTE 239. */
    private static final String TWICE = "square 3 3;quarter a 1 1 99 1;cart 0 1 1 0 0;cart 239 1 1 0 0;judge 0 0;law 1 0 0 0;";

    public static void main(String[] args) {
        nothingToThrow();
        withoutSlips();
        theFirstDay();
        plansAsTheyAre();
        boxesAsTold();
        noSuchQuarters();
        gridEdges();
        leastEach();
        bestEdges();
        daysEdges();
        rowsEdges();
        standEdges();
        twoOnOneCell();
        nineWithASpot();
        restsEdges();
        joinEdges();
        lookSizes();
        lookFields();
        heldEdges();
        walks();
        alikeEdges();
        orderEdges();
        threeSteps();
        tenPulp();
        sandThatLies();
        dryEdges();
        tableSizes();
        tableFields();
        tableEachAgainstEach();
        tableWithoutFeints();
        tableStays();
        theLastCall();
        CHECKS.close();
    }

    private static OrangeFight town(String text, String plans) {
        return CHECKS.inTown(text, plans);
    }

    private static void tellPlans(OrangeFight x, String plans, int want) {
        CHECKS.reads(x, 'p', plans, want, 0);
    }

    /** Nine QUARTERS in the first row, and what else is told. */
    private static String nine(String more) {
        StringBuilder text = new StringBuilder("square 9 2;");
        for (int q = 0; q < 9; q++) {
            text.append("quarter ").append((char) ('a' + q)).append(' ').append(q).append(" 0 9 9;");
        }
        return text + more;
    }

    /** A SURE DAY of one without a plan, without a box, without CARTS, without judges: no marks. */
    private static void nothingToThrow() {
        String all = "square 2 2;quarter a 0 0 9 5;cart 0 1 1 0 0;judge 0 0;";
        CHECKS.due("marks", town(all, "a 9 9;").sure(0), 36);
        CHECKS.due("no plan", town(all, "").sure(0), 0);
        CHECKS.due("EACH 0", town(all, "a 9 0;").sure(0), 0);
        CHECKS.due("no box", town("square 2 2;quarter a 0 0 0 5;cart 0 1 1 0 0;judge 0 0;", "a 9 9;").sure(0), 0);
        CHECKS.due("no CART", town("square 2 2;quarter a 0 0 9 5;judge 0 0;", "a 9 9;").sure(0), 0);
        CHECKS.due("no judge", town("square 2 2;quarter a 0 0 9 5;cart 0 1 1 0 0;", "a 9 9;").sure(0), 0);
    }

    /** "without slips .. (and sand counting nothing)": not by any PULP. */
    private static void withoutSlips() {
        OrangeFight x = town("square 9 2;quarter a 0 0 400 5;judge 0 0;" + "cart 0 0 0 400 0;".repeat(10), "a 9 9;");
        CHECKS.due("none slips", x.sure(0), 36);
        x.on(3);
        CHECKS.due("PULP", x.cell(0, 0) > 59, true);
        CHECKS.due("none slips by PULP that lies", x.sure(0), 36);
        CHECKS.due("nor in a GRID", x.grid(0, 0, 99), 36);
        x.sand(0);
        CHECKS.due("sand counts nothing", x.sure(0), 36);
        CHECKS.due("it slips but on a SURE DAY", x.now(4) > 0, true);
    }

    /** "the first one": no AIM more by feints of now, no box used by EACH as yet, from MINUTE 0. */
    private static void theFirstDay() {
        OrangeFight x = town(TWICE, "a 9 1 feint;");
        CHECKS.due("a feint in MINUTE 239 gives nothing", x.sure(0), 3);
        x.on(240);
        CHECKS.due("2 more now", x.quarter(0, 5), 2);
        CHECKS.due("not on a SURE DAY", x.sure(0), 3);
        x.on(1);
        CHECKS.due("one is used now", x.aims(0, 0), -1);
        CHECKS.due("not on a SURE DAY", x.sure(0), 3);
        CHECKS.due("nor in a GRID", x.grid(0, 9, 1), 3);
        // A feint gives its 2 to one throw: in MINUTE 2, not in MINUTE 10 again.
        OrangeFight y = town("square 3 3;quarter a 1 1 99 1;cart 1 1 1 0 0;cart 10 1 1 0 0;judge 0 0;law 1 0 0 0;", "a 9 1 feint;");
        CHECKS.due("5 and 3", y.sure(0), 8);
    }

    /** "by PLANS as they are". */
    private static void plansAsTheyAre() {
        OrangeFight x = town(TWICE, "a 9 1;");
        CHECKS.due("one each", x.sure(0), 6);
        tellPlans(x, "a 9 2;", 1);
        CHECKS.due("two each", x.sure(0), 9);
        tellPlans(x, "a 9 99;", 1);
        CHECKS.due("four and one", x.sure(0), 15);
        tellPlans(x, "", 0);
        CHECKS.due("none", x.sure(0), 0);
        // Others' plans count by JOIN alone.
        OrangeFight y = town("square 2 2;quarter a 0 0 9 5;quarter b 1 0 1 5;cart 0 1 1 0 0;judge 0 0;law 0 0 1 0;", "a 9 9;b 9 9;");
        CHECKS.due("b has one box to join a", y.sure(0), 1);
        CHECKS.due("and a to join b", y.sure(1), 1);
    }

    /** "with all boxes as told": also behind the last one of now. */
    private static void boxesAsTold() {
        OrangeFight x = town("square 2 2;quarter a 0 0 2 1;cart 0 1 1 0 0;judge 0 0;law 1 0 0 0;", "a 9 9;");
        CHECKS.due("two boxes", x.sure(0), 6);
        x.on(720);
        CHECKS.due("none is left now", x.quarter(0, 2), 0);
        CHECKS.due("two on a SURE DAY", x.sure(0), 6);
        CHECKS.due("two in a GRID", x.grid(0, 18, 99), 6);
        CHECKS.due("BEST by two", x.best(0), 202);
    }

    /** "NONE - 10000: no such one", "NONE: no such QUARTER". */
    private static void noSuchQuarters() {
        OrangeFight x = town("square 2 2;quarter a 0 0 2 1;quarter b 1 0 2 1;spot a 1 1;", "a 9 9;b 9 9;");
        int[] others = {Integer.MIN_VALUE, -1, 2, 9, Integer.MAX_VALUE};
        for (int q : others) {
            CHECKS.due("sure(" + q + ")", x.sure(q), NO);
            CHECKS.due("grid(" + q + ", 0, 0)", x.grid(q, 0, 0), NO);
            CHECKS.due("best(" + q + ")", x.best(q), -1);
            CHECKS.due("stand(" + q + ", 0)", x.stand(q, 0), NO);
            CHECKS.due("join(" + q + ", 0)", x.join(q, 0), NO);
            CHECKS.due("join(0, " + q + ")", x.join(0, q), NO);
        }
        OrangeFight empty = new OrangeFight();
        CHECKS.due("of an empty TOWN", empty.sure(0) + empty.grid(0, 0, 0) + empty.stand(0, 0) + empty.join(0, 0), 4 * NO);
        CHECKS.due("best of an empty TOWN", empty.best(0), -1);
    }

    /** "GRID (NEAR 0 to 18, EACH 0 to 99)", "(feint as told)". */
    private static void gridEdges() {
        OrangeFight x = town(TWICE, "a 9 1 feint;");
        CHECKS.due("grid(0, 0, 0)", x.grid(0, 0, 0), 0);
        CHECKS.due("grid(0, 18, 0)", x.grid(0, 18, 0), 0);
        CHECKS.due("grid(0, 0, 99): it stands there", x.grid(0, 0, 99), 3 + 5);
        CHECKS.due("grid(0, 18, 99)", x.grid(0, 18, 99), 3 + 5);
        for (int far : new int[] {Integer.MIN_VALUE, -1, 19, Integer.MAX_VALUE}) {
            CHECKS.due("grid(0, " + far + ", 1)", x.grid(0, far, 1), NO);
        }
        for (int each : new int[] {Integer.MIN_VALUE, -1, 100, Integer.MAX_VALUE}) {
            CHECKS.due("grid(0, 1, " + each + ")", x.grid(0, 1, each), NO);
        }
        CHECKS.due("the plan stays", x.quarter(0, 7), 1);
        // 18 away: the GRID has it with NEAR 18 alone.
        OrangeFight y = town("square 10 10;quarter a 0 0 9 9;quarter b 9 8 9 9;cart 0 9 9 0 0;judge 0 0;law 0 0 1 0;", "b 9 9;");
        CHECKS.due("NEAR 17", y.grid(0, 17, 9), 0);
        CHECKS.due("NEAR 18", y.grid(0, 18, 9), 4);
        CHECKS.due("EACH 1", y.grid(0, 18, 1), 1);
        // Without a plan as told: without feints.
        CHECKS.due("no plan", town(TWICE, "").grid(0, 0, 99), 15);
    }

    /** "(of like ones the least EACH, then the least NEAR)". */
    private static void leastEach() {
        // Two boxes: both at the near CART by EACH 2, or one at each CART by EACH 1, have as many marks.
        OrangeFight x = town("square 9 2;quarter a 0 0 2 9;cart 0 1 0 0 7;cart 0 5 0 0 0;judge 0 0;law 1 0 0 0;", "");
        CHECKS.due("NEAR 1, EACH 2", x.grid(0, 1, 2), 8);
        CHECKS.due("NEAR 5, EACH 1", x.grid(0, 5, 1), 8);
        CHECKS.due("NEAR 4, EACH 1", x.grid(0, 4, 1), 4);
        CHECKS.due("best", x.best(0), 501);
        CHECKS.due("none has marks: the least of both", town("square 2 2;quarter a 0 0 9 9;", "a 5 5;").best(0), 0);
    }

    /** "those of NEAR 0 to 12, EACH 0 to 20": at 0, too; "feint as told" holds for BEST. */
    private static void bestEdges() {
        CHECKS.due("NEAR 0", town("square 2 2;quarter a 0 0 9 9;cart 0 0 0 0 0;judge 0 0;", "").best(0), 4);
        CHECKS.due("by feints two throws", town("square 2 2;quarter a 0 0 9 9;cart 0 0 0 0 0;judge 0 0;", "a 0 1 feint;").best(0), 2);
        for (int far = 11; far <= 14; far++) {
            OrangeFight x = town("square 10 10;quarter a 0 0 9 9;quarter b 9 9 9 9;cart 0 9 " + (far - 9) + " 0 0;judge 0 0;law 0 0 1 0;",
                "b 18 1;");
            CHECKS.due("best from " + far, x.best(0), far <= 12 ? 100 * far + 1 : 0);
        }
    }

    /** "DAYS of n (0 to 9999) boxes by the tape (three bytes: carts; 1 to 9 bytes: worth)", "NONE: not as told." */
    private static void daysEdges() {
        OrangeFight x = new OrangeFight();
        for (int size = 0; size <= 21; size++) {
            int[] tape = new int[size];
            for (int i = 0; i < size; i++) {
                tape[i] = 1;
            }
            Checks.put(x, tape);
            CHECKS.due("days by " + size + " bytes", x.days(9999), size < 4 || size > 12 ? -1 : 3 * (size - 3));
            CHECKS.due("the tape is empty", x.count(8), 0);
            CHECKS.due("rows", x.rows(0), size < 4 ? -1 : size > 12 ? 9 : size - 3);
        }
        for (int n : new int[] {Integer.MIN_VALUE, -1, 10000, Integer.MAX_VALUE}) {
            Checks.put(x, 1, 1, 1, 1);
            CHECKS.due("days(" + n + ")", x.days(n), -1);
            CHECKS.due("the tape is empty", x.count(8), 0);
            CHECKS.due("rows stay", x.rows(2), 9);
        }
        // All within n boxes: one less will not do.
        int[][] last = {{255, 0, 0}, {0, 255, 0}, {0, 0, 255}};
        for (int d = 0; d < 3; d++) {
            for (int n = 253; n <= 256; n++) {
                Checks.put(x, last[d][0], last[d][1], last[d][2], 2);
                CHECKS.due("255 carts, " + n + " boxes", x.days(n), n < 255 ? 0 : 510);
                CHECKS.due("their row", x.rows(d), n < 255 ? 0 : 1);
            }
        }
        Checks.put(x, 255, 255, 255, 0, 0, 0, 0, 0, 0, 0, 0, 255);
        CHECKS.due("6885 boxes all", x.days(6885), 255 * 765);
        Checks.put(x, 255, 255, 255, 0, 0, 0, 0, 0, 0, 0, 0, 255);
        CHECKS.due("one less", x.days(6884), 255 * 510);
        CHECKS.due("the least row", x.rows(0) * 100 + x.rows(1) * 10 + x.rows(2), 99);
    }

    /** "NONE: no such one, or ahead of any." */
    private static void rowsEdges() {
        OrangeFight x = new OrangeFight();
        for (int d = -1; d < 4; d++) {
            CHECKS.due("rows(" + d + ") ahead of any", x.rows(d), -1);
        }
        Checks.put(x, 1, 1, 1, 1);
        CHECKS.due("days(0)", x.days(0), 0);
        int[] want = {-1, 0, 0, 0, -1};
        for (int d = -1; d < 4; d++) {
            CHECKS.due("rows(" + d + ")", x.rows(d), want[d + 1]);
        }
        for (int d : FAR_OFF) {
            CHECKS.due("rows(" + d + ")", x.rows(d), -1);
        }
        CHECKS.reads(x, 't', "square 2 2;", 1, 0);
        CHECKS.due("rows stay in a new TOWN", x.rows(0), 0);
    }

    /** "HAS by SPOTS; NONE - 10000: no such ones (some have no spot)." */
    private static void standEdges() {
        OrangeFight x = town("square 9 2;quarter a 0 0 9 1;quarter b 8 0 9 1;quarter c 4 0 9 1;cart 0 1 0 0 0;spot a 1 1;spot c 2 1;"
            + "judge 1 1;", "a 1 1;c 2 1;");
        int[] has = {5, 5, NO, NO, 5, 5, NO, NO};
        for (int spots = 0; spots < 8; spots++) {
            CHECKS.due("stand(0, " + spots + ")", x.stand(0, spots), has[spots] < 0 ? NO : has[spots] + (spots >= 4 ? 1 : 0));
        }
        CHECKS.due("c stays, too far", x.stand(2, 1), 0);
        CHECKS.due("c on its spot", x.stand(2, 4), 6);
        CHECKS.due("one without a spot may be asked", x.stand(1, 5), 0);
        OrangeFight y = town("square 9 2;quarter a 0 0 9 1;quarter b 8 0 9 1;spot b 1 1;", "");
        CHECKS.due("the first one has none", y.stand(1, 1), NO);
        CHECKS.due("nor beside another", y.stand(1, 3), NO);
        CHECKS.due("the last one has", y.stand(0, 2), 0);
        for (int spots : new int[] {Integer.MIN_VALUE, -1, 8, 9, 13, 512, Integer.MAX_VALUE}) {
            CHECKS.due("stand(0, " + spots + ")", x.stand(0, spots), NO);
        }
    }

    /** "(Two on one CELL are let.)": on a spot and on another one's own CELL. */
    private static void twoOnOneCell() {
        OrangeFight x = town("square 9 2;quarter a 0 0 9 1;quarter b 8 0 9 1;cart 0 4 1 0 0;judge 4 0;spot a 4 1;spot b 4 1;", "a 2 1;b 2 1;");
        int[] first = {0, 5, 0, 6};
        int[] second = {0, 0, 5, 6};
        for (int spots = 0; spots < 4; spots++) {
            CHECKS.due("stand(0, " + spots + ")", x.stand(0, spots), first[spots]);
            CHECKS.due("stand(1, " + spots + ")", x.stand(1, spots), second[spots]);
        }
        CHECKS.due("both there is at REST", x.rests(-1) * 10 + x.rests(0), 13);
        OrangeFight y = town("square 9 2;quarter a 0 0 9 1;quarter b 4 0 9 1;cart 0 4 1 0 0;judge 4 0;spot a 4 0;", "a 2 1;b 2 1;");
        CHECKS.due("on b's CELL", y.stand(0, 1), 6);
        CHECKS.due("b beside it", y.stand(1, 1), 6);
    }

    /** All nine have a spot: any bits of nine will do, and "NONE: .. more than 6 have one". */
    private static void nineWithASpot() {
        StringBuilder spots = new StringBuilder("cart 0 4 1 0 0;judge 4 0;law 0 0 1 0;");
        StringBuilder plans = new StringBuilder();
        for (int q = 0; q < 9; q++) {
            spots.append("spot ").append((char) ('a' + q)).append(" 4 1;");
            plans.append((char) ('a' + q)).append(" 1 1;");
        }
        OrangeFight x = town(nine(spots.toString()), plans.toString());
        CHECKS.due("all on one CELL", x.stand(8, 511), 8);
        CHECKS.due("but the last", x.stand(0, 255), 7);
        CHECKS.due("a bit more", x.stand(0, 512), NO);
        CHECKS.due("a bit more", x.stand(0, 1023), NO);
        CHECKS.due("rests(-1)", x.rests(-1), -1);
        CHECKS.due("rests(0)", x.rests(0), -1);
    }

    /** "how many (k NONE), or the k-th (rising); NONE: none such". */
    private static void restsEdges() {
        OrangeFight none = town("square 2 2;quarter a 0 0 1 1;", "");
        CHECKS.due("none has a spot: one way to stand", none.rests(-1), 1);
        CHECKS.due("that of no bits", none.rests(0), 0);
        CHECKS.due("no other", none.rests(1), -1);
        // b and d alone have a spot, and what they stand on is all one: four ways, rising by their bits.
        OrangeFight two = town("square 9 2;quarter a 0 0 1 1;quarter b 1 0 1 1;quarter c 2 0 1 1;quarter d 3 0 1 1;spot d 8 1;spot b 8 1;", "");
        int[] ways = {0, 2, 8, 10, -1};
        CHECKS.due("four ways", two.rests(-1), 4);
        for (int k = 0; k < ways.length; k++) {
            CHECKS.due("rests(" + k + ")", two.rests(k), ways[k]);
        }
        for (int k : FAR_OFF) {
            CHECKS.due("rests(" + k + ")", two.rests(k), -1);
        }
        OrangeFight six = town(nine("spot a 0 1;spot b 0 1;spot c 0 1;spot d 0 1;spot e 0 1;spot f 0 1;"), "");
        CHECKS.due("six have one", six.rests(-1), 64);
        // None at REST: one of the two always has more by its change alone.
        OrangeFight never = town("square 9 2;quarter a 0 1 9 1;quarter b 8 1 9 2;cart 0 1 0 0 2;cart 4 6 1 0 1;judge 0 0;judge 0 1;"
            + "judge 7 1;spot a 5 0;spot b 4 0;law 2 2 7 0;", "a 4 1;b 4 2;");
        int[][] has = {{12, 20}, {15, 27}, {26, 14}, {22, 28}};
        for (int spots = 0; spots < 4; spots++) {
            CHECKS.due("a's by " + spots, never.stand(0, spots), has[spots][0]);
            CHECKS.due("b's by " + spots, never.stand(1, spots), has[spots][1]);
        }
        CHECKS.due("none at REST", never.rests(-1), 0);
        CHECKS.due("the first of none", never.rests(0), -1);
    }

    /** "NONE - 10000: no such ones, the same, b has no plan." */
    private static void joinEdges() {
        OrangeFight x = town("square 2 2;quarter a 0 0 9 1;quarter b 1 0 9 1;cart 0 1 1 0 0;judge 0 0;", "b 9 1 feint;");
        CHECKS.due("the same without a plan", x.join(0, 0), NO);
        CHECKS.due("the same with one", x.join(1, 1), NO);
        CHECKS.due("b's has none", x.join(1, 0), NO);
        // a has b's plan: HIT 3 and BOLD 2 by each and JOIN 1 by each, less b's 5.
        CHECKS.due("join(0, 1)", x.join(0, 1), 7);
        CHECKS.due("the PLANS stay", x.quarter(0, 6), -1);
        tellPlans(x, "a 9 1;b 9 1;", 2);
        CHECKS.due("no change, no gain", x.join(0, 1), 0);
        tellPlans(x, "a 9 1;b 0 0;", 2);
        CHECKS.due("a loss", x.join(0, 1), -5);
    }

    /** "by the tape (1 to 12 rows of five bytes ..)", "NONE: not as told": the latest laws stay. */
    private static void lookSizes() {
        OrangeFight x = new OrangeFight();
        int[] sizes = {0, 1, 4, 5, 6, 9, 10, 11, 49, 50, 54, 55, 56, 59, 60, 61, 64, 65, 66, 70};
        for (int size : sizes) {
            int[] rows = new int[size];
            for (int i = 4; i < size; i += 5) {
                rows[i] = 100;
            }
            Checks.put(x, rows);
            boolean told = size >= 5 && size <= 60 && size % 5 == 0;
            CHECKS.due("look at " + size + " bytes", x.look(), told ? 10000 : -1);
            CHECKS.due("the tape is empty", x.count(8), 0);
            CHECKS.due("held", x.held(7), size < 5 ? -1 : 7);
        }
    }

    /** "not as told (0 to 20; 0, 1; 0 to 8; 0, 1; any)": in the first row and in the twelfth one. */
    private static void lookFields() {
        int[] most = {20, 1, 8, 1, 255};
        OrangeFight x = new OrangeFight();
        for (int row = 0; row < 12; row += 11) {
            for (int field = 0; field < 5; field++) {
                for (int value : new int[] {most[field], most[field] + 1, 255}) {
                    int[] rows = new int[60];
                    for (int i = 4; i < 60; i += 5) {
                        rows[i] = 100;
                    }
                    rows[5 * row + field] = value & 255;
                    Checks.put(x, rows);
                    CHECKS.due("a row with " + value + " at " + field, x.look() >= 0, (value & 255) <= most[field]);
                }
            }
        }
        // Marks of 0 and of 255 are -100 and 155: no law has the one; 9 times 20 less 9 is more than the other.
        Checks.put(x, 20, 0, 0, 0, 0);
        CHECKS.due("-100", x.look(), 0);
        Checks.put(x, 0, 0, 0, 1, 91);
        CHECKS.due("-9: HURT 9, all else any", x.look(), 1000);
        CHECKS.due("the first", x.held(0), 9);
        CHECKS.due("the second", x.held(1), 19);
        Checks.put(x, 0, 0, 0, 1, 90);
        CHECKS.due("-10", x.look(), 0);
    }

    /** "NONE: none such, behind the 100th, or ahead of any." */
    private static void heldEdges() {
        OrangeFight x = new OrangeFight();
        for (int k : new int[] {-1, 0, 1, 99, 100}) {
            CHECKS.due("held(" + k + ") ahead of any", x.held(k), -1);
        }
        Checks.put(x, 0, 0, 0, 0, 100);
        CHECKS.due("all laws", x.look(), 10000);
        for (int k = 0; k < 100; k++) {
            CHECKS.due("held(" + k + ")", x.held(k), k);
        }
        CHECKS.due("the 101st", x.held(100), -1);
        CHECKS.due("the last of all", x.held(9999), -1);
        for (int k : FAR_OFF) {
            CHECKS.due("held(" + k + ")", x.held(k), -1);
        }
        // 9 AIM, 18 BOLD, 9 JOIN, less 0: the greatest law of all, and no second one.
        Checks.put(x, 9, 0, 0, 0, 181, 0, 1, 0, 0, 118, 0, 0, 1, 0, 109, 0, 0, 0, 1, 91);
        CHECKS.due("one law", x.look(), 1);
        CHECKS.due("9999", x.held(0), 9999);
        CHECKS.due("no second one", x.held(1), -1);
        CHECKS.reads(x, 't', "square 2 2;", 1, 0);
        CHECKS.due("held stays in a new TOWN", x.held(0), 9999);
    }

    /** "some judges (1 to 12) among some quarters (1 to 9)": so many rounds till each was seen as often. */
    private static void walks() {
        OrangeFight x = new OrangeFight();
        for (int judges = -1; judges <= 14; judges++) {
            for (int quarters = -1; quarters <= 11; quarters++) {
                int want = -1;
                if (judges >= 1 && judges <= 12 && quarters >= 1 && quarters <= 9) {
                    want = 1;
                    while (want * judges % quarters != 0) {
                        want++;
                    }
                }
                CHECKS.due("walk(" + judges + ", " + quarters + ")", x.walk(judges, quarters), want);
            }
        }
        for (int n : FAR_OFF) {
            CHECKS.due("walk(" + n + ", 1)", x.walk(n, 1), -1);
            CHECKS.due("walk(1, " + n + ")", x.walk(1, n), -1);
        }
    }

    /** "Which quarter a judge sees in a round (from 0) of these; NONE: no such ones." */
    private static void alikeEdges() {
        int[][] walks = {{1, 1, 1}, {12, 9, 3}, {1, 9, 9}, {12, 1, 1}, {5, 7, 7}, {9, 9, 1}};
        for (int[] w : walks) {
            OrangeFight x = new OrangeFight();
            int next = 0;
            for (int round = 0; round < w[2]; round++) {
                for (int judge = 0; judge < w[0]; judge++) {
                    CHECKS.due("alike(" + w[0] + ", " + w[1] + ", " + round + ", " + judge + ")", x.alike(w[0], w[1], round, judge), next);
                    next = next + 1 == w[1] ? 0 : next + 1;
                }
                CHECKS.due("a judge too many", x.alike(w[0], w[1], round, w[0]), -1);
                CHECKS.due("a judge below 0", x.alike(w[0], w[1], round, -1), -1);
            }
            CHECKS.due("the next one would be the first again", next, 0);
            CHECKS.due("a round too many", x.alike(w[0], w[1], w[2], 0), -1);
            CHECKS.due("a round below 0", x.alike(w[0], w[1], -1, 0), -1);
            for (int n : FAR_OFF) {
                CHECKS.due("round " + n, x.alike(w[0], w[1], n, 0), -1);
                CHECKS.due("judge " + n, x.alike(w[0], w[1], 0, n), -1);
                CHECKS.due("judges " + n, x.alike(n, w[1], 0, 0), -1);
                CHECKS.due("quarters " + n, x.alike(w[0], n, 0, 0), -1);
            }
        }
        OrangeFight x = new OrangeFight();
        CHECKS.due("no judges", x.alike(0, 1, 0, 0), -1);
        CHECKS.due("13 judges", x.alike(13, 1, 0, 0), -1);
        CHECKS.due("no quarters", x.alike(1, 0, 0, 0), -1);
        CHECKS.due("10 quarters", x.alike(1, 10, 0, 0), -1);
    }

    /** "NONE: more than 8 CARTS, none"; "comes: NONE: none such, or ahead of any": the latest ORDER stays. */
    private static void orderEdges() {
        OrangeFight x = new OrangeFight();
        CHECKS.due("no CART", x.order(), -1);
        for (int i = -1; i < 9; i++) {
            CHECKS.due("comes(" + i + ") ahead of any", x.comes(i), -1);
        }
        for (int carts = 1; carts <= 10; carts++) {
            CHECKS.reads(x, 't', "square 2 2;" + "cart 0 0 0 0 0;".repeat(carts), carts + 1, 0);
            CHECKS.due("order of " + carts, x.order(), carts > 8 ? -1 : 0);
            int many = Math.min(carts, 8);
            CHECKS.due("the last of " + carts, x.comes(many - 1), many - 1);
            CHECKS.due("behind the last of " + carts, x.comes(many), -1);
        }
        CHECKS.reads(x, 't', "", 0, 0);
        CHECKS.due("no CART", x.order(), -1);
        CHECKS.due("the latest ORDER stays", x.comes(7), 7);
        // Who waited in one TOWN does not in another.
        CHECKS.reads(x, 't', "square 9 2;quarter a 0 0 0 1;cart 0 1 1 0 0;cart 0 8 1 0 0;", 4, 0);
        CHECKS.due("one waits", x.order(), 1);
        CHECKS.reads(x, 't', "square 9 2;quarter b 8 0 0 1;cart 0 1 1 0 0;cart 0 2 1 0 0;cart 0 3 1 0 0;", 5, 0);
        CHECKS.due("none waits", x.order(), 0);
        CHECKS.reads(x, 't', "square 9 2;quarter b 8 0 0 1;cart 0 1 1 0 0;cart 0 7 1 0 0;cart 0 3 1 0 0;", 5, 0);
        CHECKS.due("by the second one alone", x.order() * 10 + x.comes(1), 11);
        CHECKS.reads(x, 't', "square 2 2;" + "cart 0 0 0 0 0;".repeat(8), 9, 0);
        CHECKS.due("eight again", x.order(), 0);
        for (int i : FAR_OFF) {
            CHECKS.due("comes(" + i + ")", x.comes(i), -1);
        }
    }

    /** "within 3 STEPS": 3 is, 4 is not; who has none within is not asked. */
    private static void threeSteps() {
        for (int far = 0; far <= 6; far++) {
            OrangeFight x = town("square 10 10;quarter a 0 0 0 1;quarter b 9 9 0 1;cart 0 5 5 0 0;cart 0 5 5 0 0;cart 0 " + far + " 0 0 0;", "");
            CHECKS.due("one " + far + " away", x.order(), far <= 3 ? 1 : 0);
            CHECKS.due("the second is it", x.comes(1), far <= 3 ? 2 : 1);
        }
        // All eight serve it: it never waits; one of eight does: it waits for three or four.
        OrangeFight all = town("square 9 2;quarter a 0 0 0 1;" + "cart 0 1 1 0 0;".repeat(8), "");
        CHECKS.due("never", all.order(), 0);
        OrangeFight last = town("square 9 2;quarter a 0 0 0 1;" + "cart 0 8 1 0 0;".repeat(7) + "cart 0 1 1 0 0;", "");
        CHECKS.due("four", last.order(), 4);
        CHECKS.due("the fifth is it", last.comes(4), 7);
    }

    /** "each QUARTER whose CELL has 10 PULP or more now": by n boxes of a CART 2 PULP each, less what a drain takes. */
    private static void tenPulp() {
        for (int boxes = 0; boxes <= 8; boxes++) {
            int first = Math.min(boxes, 4);
            OrangeFight x = town("square 3 3;quarter a 1 1 0 1;cart 0 1 1 " + first + " 0;cart 0 1 1 " + (boxes - first) + " 0;", "");
            x.on(4);
            CHECKS.due("PULP", x.cell(11, 0), 2 * boxes);
            CHECKS.due("slippery with " + 2 * boxes, x.slippery(), boxes >= 5 ? 1 : 0);
            CHECKS.due("its CELL", x.dry(0), boxes >= 5 ? 1 : -1);
        }
        OrangeFight y = town("square 4 4;quarter a 3 3 0 1;cart 0 3 3 9 0;cart 0 3 3 9 0;drain 2 3;", "");
        y.on(4);
        CHECKS.due("12 PULP", y.slippery(), 1);
        y.on(2);
        CHECKS.due("10 PULP", y.slippery(), 1);
        CHECKS.due("its CELL", y.dry(0), 23);
        y.on(1);
        CHECKS.due("9 PULP", y.slippery(), 0);
        y.on(233);
        CHECKS.due("a new DAY", y.slippery(), 0);
    }

    /** "has sand on it or a neighbour (sand that lies counts)": a CELL across is none. */
    private static void sandThatLies() {
        int[] near = {44, 34, 54, 43, 45};
        int[] off = {33, 55, 35, 53, 24, 64, 42, 46, 0, 99};
        for (int at : near) {
            OrangeFight x = wet();
            x.sand(at);
            CHECKS.due("sand on " + at, x.slippery(), 0);
        }
        for (int at : off) {
            OrangeFight x = wet();
            x.sand(at);
            CHECKS.due("sand on " + at, x.slippery(), 1);
            CHECKS.due("the first CELL", x.dry(0), 34);
        }
        CHECKS.due("nothing is laid by asking", wet().cell(34, 5), 0);
    }

    private static OrangeFight wet() {
        OrangeFight x = town("square 10 10;quarter a 4 4 0 1;cart 0 4 4 9 0;cart 0 4 4 9 0;", "");
        x.on(4);
        CHECKS.due("it is wet", x.slippery(), 1);
        return x;
    }

    /** "NONE: none such, or ahead of any." */
    private static void dryEdges() {
        OrangeFight x = town("square 2 2;quarter a 0 0 0 1;cart 0 0 0 9 0;cart 0 0 0 9 0;", "");
        x.on(4);
        for (int i = -1; i < 3; i++) {
            CHECKS.due("dry(" + i + ") ahead of any", x.dry(i), -1);
        }
        CHECKS.due("slippery", x.slippery(), 1);
        CHECKS.due("dry(0)", x.dry(0), 0);
        CHECKS.due("dry(1)", x.dry(1), -1);
        for (int i : FAR_OFF) {
            CHECKS.due("dry(" + i + ")", x.dry(i), -1);
        }
        // What was told stays till slippery() is asked again.
        CHECKS.due("sand", x.sand(0), true);
        CHECKS.due("as told", x.dry(0), 0);
        CHECKS.due("slippery", x.slippery(), 0);
        CHECKS.due("none now", x.dry(0), -1);
    }

    /** "The tape's plans (1 to 6 pairs of bytes ..)", "NONE: not as told, fewer than two QUARTERS." */
    private static void tableSizes() {
        OrangeFight x = town("square 2 2;quarter a 0 0 9 1;quarter b 1 0 9 1;", "");
        for (int size = 0; size <= 20; size++) {
            Checks.put(x, new int[size]);
            boolean told = size >= 2 && size <= 12 && size % 2 == 0;
            CHECKS.due("table of " + size + " bytes", x.table(), told ? size / 2 : -1);
            CHECKS.due("the tape is empty", x.count(8), 0);
            int kept = Math.min(size / 2, 6);
            CHECKS.due("the last plan", x.against(kept - 1, kept - 1, 1), kept == 0 ? NO : 0);
            CHECKS.due("no other i", x.against(kept, 0, 0), NO);
            CHECKS.due("no other j", x.against(0, kept, 0), NO);
            CHECKS.due("reply", x.reply(kept - 1), kept == 0 ? -1 : 0);
            CHECKS.due("no other reply", x.reply(kept), -1);
        }
        String[] few = {"square 2 2;", "square 2 2;quarter a 0 0 9 1;"};
        for (String text : few) {
            CHECKS.reads(x, 't', text, text.split(";").length, 0);
            Checks.put(x, 1, 1);
            CHECKS.due("table in " + text, x.table(), -1);
            CHECKS.due("the tape is empty", x.count(8), 0);
        }
        CHECKS.due("the latest one stays", x.against(5, 5, 0), 0);
    }

    /** "(.. NEAR, EACH as told ..)": 0 to 18, 0 to 99, in the first pair and in the last. */
    private static void tableFields() {
        int[] most = {18, 99};
        OrangeFight x = town("square 2 2;quarter a 0 0 9 1;quarter b 1 0 9 1;", "");
        for (int at = 0; at < 12; at++) {
            if (at < 2 || at > 9) {
                for (int value : new int[] {0, most[at % 2], most[at % 2] + 1, 128, 255}) {
                    int[] pairs = new int[12];
                    pairs[at] = value;
                    Checks.put(x, pairs);
                    CHECKS.due("table with " + value + " at " + at, x.table(), value <= most[at % 2] ? 6 : -1);
                }
            }
        }
    }

    /** Six plans, of each its own NEAR: every pair tells the marks of both. */
    private static void tableEachAgainstEach() {
        OrangeFight x = town("square 9 2;quarter a 0 0 9 9;quarter b 8 0 9 9;cart 10 7 0 0 0;cart 20 6 0 0 0;cart 30 5 0 0 0;"
            + "cart 40 4 0 0 0;judge 0 0;judge 8 0;law 1 0 1 0;", "");
        Checks.put(x, 1, 1, 2, 1, 4, 1, 3, 1, 7, 1, 0, 1);
        CHECKS.due("table", x.table(), 6);
        int[] first = {0, 0, 5, 0, 14, 0};
        int[] second = {11, 22, 33, 28, 33, 0};
        // At how many of the four CARTS both throw.
        int[] reaches = {0, 0, 1, 0, 4, 0};
        int[] meets = {1, 2, 4, 3, 4, 0};
        for (int i = 0; i < 6; i++) {
            for (int j = 0; j < 6; j++) {
                int both = Math.max(0, reaches[i] + meets[j] - 4);
                CHECKS.due("against(" + i + ", " + j + ", 0)", x.against(i, j, 0), first[i] + both);
                CHECKS.due("against(" + i + ", " + j + ", 1)", x.against(i, j, 1), second[j] + both);
            }
            CHECKS.due("reply(" + i + ")", x.reply(i), 4);
        }
    }

    /** "(.. without feint) for QUARTERS 0 and 1, each against each": the others by their plans. */
    private static void tableWithoutFeints() {
        OrangeFight x = town("square 9 2;quarter a 0 0 9 1;quarter b 1 0 9 1;quarter c 2 0 9 1;cart 1 1 1 0 0;judge 1 0;law 0 0 1 0;",
            "a 0 0 feint;b 0 0 feint;c 9 9;");
        Checks.put(x, 9, 1, 0, 0);
        CHECKS.due("table", x.table(), 2);
        int[] first = {2, 1, 0, 0};
        int[] second = {2, 0, 1, 0};
        for (int i = 0; i < 2; i++) {
            for (int j = 0; j < 2; j++) {
                CHECKS.due("against(" + i + ", " + j + ", 0)", x.against(i, j, 0), first[2 * i + j]);
                CHECKS.due("against(" + i + ", " + j + ", 1)", x.against(i, j, 1), second[2 * i + j]);
            }
        }
        CHECKS.due("reply(0)", x.reply(0), 0);
        CHECKS.due("the PLANS stay", x.quarter(0, 6) * 10 + x.quarter(0, 8), 1);
        CHECKS.due("and bring what they did", x.sure(0), 0);
        // The first one with most marks, be it the last plan; against one where all are alike, plan 0.
        Checks.put(x, 0, 0, 1, 1, 9, 1);
        CHECKS.due("table", x.table(), 3);
        CHECKS.due("against what throws", x.reply(2), 2);
        Checks.put(x, 0, 0, 1, 1, 0, 9);
        CHECKS.due("table", x.table(), 3);
        CHECKS.due("all alike", x.reply(1), 0);
    }

    /** "Of the latest table() that was not NONE", "NONE - 10000: no such ones", "NONE: no such one, or ahead of any." */
    private static void tableStays() {
        OrangeFight x = town("square 2 2;quarter a 0 0 9 1;quarter b 1 0 9 1;cart 0 1 1 0 0;judge 0 0;", "");
        CHECKS.due("ahead of any", x.against(0, 0, 0), NO);
        CHECKS.due("ahead of any", x.reply(0), -1);
        Checks.put(x, 2, 1);
        CHECKS.due("table", x.table(), 1);
        CHECKS.due("marks", x.against(0, 0, 0), 6);
        for (int n : FAR_OFF) {
            CHECKS.due("against(" + n + ", 0, 0)", x.against(n, 0, 0), NO);
            CHECKS.due("against(0, " + n + ", 0)", x.against(0, n, 0), NO);
            CHECKS.due("against(0, 0, " + n + ")", x.against(0, 0, n), NO);
            CHECKS.due("reply(" + n + ")", x.reply(n), -1);
        }
        CHECKS.due("against(0, 0, 2)", x.against(0, 0, 2), NO);
        CHECKS.due("against(0, 0, -1)", x.against(0, 0, -1), NO);
        CHECKS.due("against(-1, 0, 0)", x.against(-1, 0, 0), NO);
        CHECKS.due("against(0, -1, 0)", x.against(0, -1, 0), NO);
        CHECKS.due("reply(-1)", x.reply(-1), -1);
        CHECKS.reads(x, 't', "", 0, 0);
        CHECKS.due("it stays in a new TOWN", x.against(0, 0, 1), 6);
        CHECKS.due("reply stays, too", x.reply(0), 0);
    }

    /** "An object is used for at most 512 calls": the last ones answer as the first ones did, the dearest of them, too. */
    private static void theLastCall() {
        StringBuilder more = new StringBuilder("law 2 1 3 1;judge 4 1;");
        StringBuilder plans = new StringBuilder();
        for (int c = 0; c < 8; c++) {
            more.append("cart ").append(3 * c).append(' ').append(c).append(" 1 400 ").append(c % 3).append(';');
        }
        for (int q = 0; q < 9; q++) {
            more.append(q < 6 ? "spot " + (char) ('a' + q) + " " + (8 - q) + " 1;" : "");
            plans.append((char) ('a' + q)).append(' ').append(3 + q % 4).append(" 2").append(q % 2 == 0 ? ";" : " feint;");
        }
        OrangeFight x = town(nine(more.toString()), plans.toString());
        CHECKS.reads(x, 's', "joins a or not(marks<9 and boxes>2)", 5, 0);
        x.on(30);
        int[] first = dearest(x);
        // 512 calls: 60 and some for the texts, 10 a round.
        for (int round = 0; round < 42; round++) {
            int[] again = dearest(x);
            for (int i = 0; i < first.length; i++) {
                CHECKS.due("dear call " + i + " in round " + round, again[i], first[i]);
            }
        }
    }

    private static int[] dearest(OrangeFight x) {
        int[] answers = {x.best(3), x.rests(-1), x.order(), x.slippery(), x.odds(4, 60, 9), x.said(-1), x.image(0) ? 1 : 0,
            x.restore(0) ? 1 : 0, x.sure(8), x.stand(5, 63)};
        return answers;
    }
}
