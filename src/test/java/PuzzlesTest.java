/** Promises 19, 20 and 24 to 31: DAYS, LOOKED AT, WALKS, ORDER and SAND, with answers worked out by hand. */
public final class PuzzlesTest {
    private static final Checks CHECKS = new Checks();

    public static void main(String[] args) {
        days();
        look();
        walks();
        order();
        sand();
        sandInTheCorner();
        sandForNine();
        CHECKS.close();
    }

    private static OrangeFight town(String text) {
        return CHECKS.inTown(text, "");
    }

    private static void daysOf(OrangeFight x, int n, int want, int[] rows, int... tape) {
        Checks.put(x, tape);
        CHECKS.due("days(" + n + ")", x.days(n), want);
        CHECKS.due("the tape behind it", x.count(8), 0);
        for (int d = 0; d < 3; d++) {
            CHECKS.due("rows(" + d + ")", x.rows(d), rows[d]);
        }
        CHECKS.due("rows(-1)", x.rows(-1), -1);
        CHECKS.due("rows(3)", x.rows(3), -1);
    }

    private static void days() {
        OrangeFight x = new OrangeFight();
        daysOf(x, 7, -1, new int[] {-1, -1, -1}, 2, 1, 3);
        daysOf(x, 6, 30, new int[] {1, 1, 1}, 2, 1, 3, 5, 3);
        daysOf(x, 7, 33, new int[] {1, 2, 1}, 2, 1, 3, 5, 3);
        daysOf(x, 0, 0, new int[] {0, 0, 0}, 2, 1, 3, 5, 3);
        daysOf(x, 7, -1, new int[] {0, 0, 0}, 1, 1, 1);
        daysOf(x, -1, -1, new int[] {0, 0, 0}, 1, 1, 1, 1);
        daysOf(x, 10000, -1, new int[] {0, 0, 0}, 1, 1, 1, 1);
        daysOf(x, 1, -1, new int[] {0, 0, 0}, 1, 1, 1, 1, 1, 1, 1, 1, 1, 1, 1, 1, 1);
        // Of like ones the least row: the last day first.
        daysOf(x, 1, 4, new int[] {0, 0, 1}, 1, 1, 1, 4);
        daysOf(x, 2, 8, new int[] {0, 0, 2}, 1, 1, 1, 4, 4);
        // A second box may be worth more than the first, a box nothing at all, a day have no carts.
        daysOf(x, 2, 9, new int[] {0, 0, 2}, 1, 1, 1, 0, 9);
        daysOf(x, 9999, 0, new int[] {0, 0, 0}, 9, 9, 9, 0);
        daysOf(x, 5, 0, new int[] {0, 0, 0}, 0, 0, 0, 200);
        daysOf(x, 9999, 255 * 765 * 9, new int[] {9, 9, 9}, 255, 255, 255, 255, 255, 255, 255, 255, 255, 255, 255, 255);
        daysOf(x, 6884, 255 * 255 * 26, new int[] {8, 9, 9}, 255, 255, 255, 255, 255, 255, 255, 255, 255, 255, 255, 255);
    }

    private static void look() {
        OrangeFight x = new OrangeFight();
        CHECKS.due("held ahead of any", x.held(0), -1);
        Checks.put(x, 6, 1, 1, 0, 117);
        CHECKS.due("look", x.look(), 130);
        CHECKS.due("the tape behind it", x.count(8), 0);
        CHECKS.due("held(0)", x.held(0), 490);
        CHECKS.due("held(9)", x.held(9), 499);
        CHECKS.due("held(10)", x.held(10), 570);
        CHECKS.due("held(99)", x.held(99), 1519);
        CHECKS.due("held(100)", x.held(100), -1);
        CHECKS.due("held(-1)", x.held(-1), -1);
        int[][] wrong = {{}, {6, 1, 1, 0}, {21, 1, 1, 0, 117}, {6, 2, 1, 0, 117}, {6, 1, 9, 0, 117}, {6, 1, 1, 2, 117},
            {6, 1, 1, 0, 117, 1}, {6, 1, 1, 0, 117, 255, 1, 1, 0, 117}, new int[65]};
        for (int[] row : wrong) {
            Checks.put(x, row);
            CHECKS.due("look at " + row.length + " wrong bytes", x.look(), -1);
            CHECKS.due("the tape behind it", x.count(8), 0);
            CHECKS.due("the latest good one", x.held(1), 491);
        }
        Checks.put(x, 20, 1, 8, 1, 255, 20, 0, 8, 1, 255);
        // Two that are alike but for NEAR: BOLD is 0, and 155 is 20 AIM, 8 JOIN less HURT.
        CHECKS.due("look", x.look(), 6);
        int[] laws = {5071, 5089, 6055, 7021, 7039, 8005, -1};
        for (int k = 0; k < laws.length; k++) {
            CHECKS.due("held(" + k + ")", x.held(k), laws[k]);
        }
        Checks.put(x, 0, 0, 0, 1, 91, 1, 0, 0, 0, 107, 0, 1, 0, 0, 108, 0, 0, 1, 0, 103);
        CHECKS.due("one law", x.look(), 1);
        CHECKS.due("held(0)", x.held(0), 7439);
        Checks.put(x, 0, 0, 0, 0, 101);
        CHECKS.due("no law", x.look(), 0);
        CHECKS.due("held(0)", x.held(0), -1);
        int[] nothing = new int[60];
        for (int i = 4; i < 60; i += 5) {
            nothing[i] = 100;
        }
        Checks.put(x, nothing);
        CHECKS.due("all laws", x.look(), 10000);
        CHECKS.due("held(99)", x.held(99), 99);
        CHECKS.due("held(100)", x.held(100), -1);
    }

    private static void walks() {
        OrangeFight x = new OrangeFight();
        int[][] walks = {{1, 1, 1}, {1, 9, 9}, {2, 8, 4}, {3, 9, 3}, {6, 9, 3}, {9, 9, 1}, {12, 9, 3}, {12, 8, 2}, {12, 5, 5},
            {0, 1, -1}, {13, 1, -1}, {1, 0, -1}, {1, 10, -1}, {-1, -1, -1}};
        for (int[] w : walks) {
            CHECKS.due("walk(" + w[0] + ", " + w[1] + ")", x.walk(w[0], w[1]), w[2]);
        }
        int[][] sees = {{3, 9, 0, 0, 0}, {3, 9, 0, 2, 2}, {3, 9, 2, 2, 8}, {3, 9, 3, 0, -1}, {3, 9, 0, 3, -1}, {3, 9, -1, 0, -1},
            {3, 9, 0, -1, -1}, {12, 5, 0, 11, 1}, {12, 5, 1, 0, 2}, {12, 5, 4, 11, 4}, {0, 5, 0, 0, -1}, {2, 10, 0, 0, -1}};
        for (int[] s : sees) {
            CHECKS.due("alike(" + s[0] + ", " + s[1] + ", " + s[2] + ", " + s[3] + ")", x.alike(s[0], s[1], s[2], s[3]), s[4]);
        }
    }

    private static void orderOf(OrangeFight x, int want, int... row) {
        CHECKS.due("order", x.order(), want);
        for (int i = 0; i < row.length; i++) {
            CHECKS.due("comes(" + i + ")", x.comes(i), row[i]);
        }
        CHECKS.due("comes behind the last", x.comes(row.length), -1);
        CHECKS.due("comes(-1)", x.comes(-1), -1);
    }

    private static void order() {
        OrangeFight x = new OrangeFight();
        orderOf(x, -1);
        Checks.put(x, "square 10 10;");
        x.town();
        orderOf(x, -1);
        String town = "square 10 10;quarter a 0 0 1 1;quarter b 9 9 1 1;quarter c 9 0 1 1;";
        String near = "cart 0 0 3 0 0;";
        String far = "cart 0 9 8 0 0;";
        String none = "cart 0 5 5 0 0;";
        // No QUARTER has one within 3 STEPS: all rows are alike.
        orderOf(town(town + none + none + none), 0, 0, 1, 2);
        orderOf(town(town + near), 0, 0);
        orderOf(town(town + none + near + none), 1, 0, 1, 2);
        orderOf(town(town + near + none + none), 1, 1, 0, 2);
        // a has two, b two: ahead, between and behind no more than one.
        orderOf(town(town + near + near + far + far), 1, 0, 2, 1, 3);
        orderOf(town(town + near + near + far + none), 2, 0, 1, 2, 3);
        orderOf(town(town + near + near + near + near + near + near + near + far), 4, 0, 1, 2, 3, 7, 4, 5, 6);
        orderOf(town(town + none + none + none + none + none + none + none + near), 4, 0, 1, 2, 3, 7, 4, 5, 6);
        orderOf(town("square 10 10;quarter a 0 0 1 1;" + "cart 0 0 4 0 0;" + near), 1, 0, 1);
        // The ninth QUARTER waits, too.
        StringBuilder ninth = new StringBuilder("square 10 10;");
        for (int q = 0; q < 9; q++) {
            ninth.append("quarter ").append((char) ('a' + q)).append(" ").append(8 - q).append(" 0 1 1;");
        }
        orderOf(town(ninth + near + none + none), 1, 1, 0, 2);
        OrangeFight y = town(town + none + near);
        orderOf(y, 1, 0, 1);
        StringBuilder nine = new StringBuilder(town);
        for (int i = 0; i < 9; i++) {
            nine.append(near);
        }
        Checks.put(y, nine.toString());
        CHECKS.due("nine CARTS are told", y.town(), 13);
        CHECKS.due("nine CARTS", y.order(), -1);
        CHECKS.due("the latest good one", y.comes(1), 1);
    }

    /** Two CARTS on a QUARTER's own CELL bring 16 PULP in four MINUTES, one and a half 12, .. */
    private static String wet(String name, int x, int y, int boxes) {
        return "quarter " + name + " " + x + " " + y + " 0 1;cart 0 " + x + " " + y + " 4 0;cart 0 " + x + " " + y + " " + boxes + " 0;";
    }

    private static void dry(OrangeFight x, int... cells) {
        CHECKS.due("slippery", x.slippery(), cells.length);
        for (int i = 0; i < cells.length; i++) {
            CHECKS.due("dry(" + i + ")", x.dry(i), cells[i]);
        }
        CHECKS.due("dry behind the last", x.dry(cells.length), -1);
        CHECKS.due("dry(-1)", x.dry(-1), -1);
    }

    private static void sand() {
        OrangeFight x = new OrangeFight();
        CHECKS.due("dry ahead of any", x.dry(0), -1);
        dry(x);
        // 10 PULP is enough, 9 is not (a cart's box brings 2, a drain takes 1).
        x = town("square 9 9;" + wet("a", 4, 4, 1));
        x.on(3);
        dry(x);
        x.on(1);
        dry(x, 34);
        CHECKS.due("sand(34)", x.sand(34), true);
        dry(x);
        x = town("square 9 9;" + wet("a", 4, 4, 4) + "drain 4 5;");
        x.on(9);
        CHECKS.due("PULP", x.cell(44, 0), 7);
        dry(x);
        x.begin(0);
        x.on(6);
        CHECKS.due("PULP", x.cell(44, 0), 10);
        dry(x, 34);
        x.on(1);
        CHECKS.due("PULP", x.cell(44, 0), 9);
        dry(x);
        // In a corner; two with a CELL between them; two side by side; sand that lies beside one of them.
        x = town("square 2 2;" + wet("a", 1, 1, 4));
        x.on(4);
        dry(x, 1);
        x = town("square 9 9;" + wet("a", 4, 4, 4) + wet("b", 6, 4, 4));
        x.on(4);
        dry(x, 45);
        x = town("square 9 9;" + wet("a", 4, 4, 4) + wet("b", 5, 5, 4));
        x.on(4);
        dry(x, 45);
        x = town("square 9 9;" + wet("a", 4, 4, 4) + wet("b", 5, 4, 4));
        x.on(4);
        dry(x, 44);
        x.sand(54);
        dry(x, 35);
        x.sand(65);
        dry(x, 35);
        x.sand(55);
        dry(x);
        // Three in a row: one CELL; four: two, the first of which may be left for what the second one serves.
        x = town("square 9 9;" + wet("a", 3, 4, 4) + wet("b", 4, 4, 4) + wet("c", 5, 4, 4));
        x.on(4);
        dry(x, 44);
        x = town("square 9 9;" + wet("a", 3, 4, 4) + wet("b", 4, 4, 4) + wet("c", 5, 4, 4) + wet("d", 6, 4, 4));
        x.on(4);
        dry(x, 33, 45);
    }

    /** The last CELL of all serves three; what served in one TOWN does not in another. */
    private static void sandInTheCorner() {
        OrangeFight x = town("square 10 10;" + wet("a", 8, 9, 4) + wet("b", 9, 8, 4) + wet("c", 9, 9, 4));
        x.on(4);
        dry(x, 99);
        x.sand(99);
        dry(x);
        Checks.put(x, "square 10 10;" + wet("a", 0, 0, 4) + wet("b", 9, 5, 4) + wet("c", 5, 9, 4));
        CHECKS.due("another TOWN", x.town(), 10);
        CHECKS.due("the latest slippery() had none", x.dry(0), -1);
        x.on(4);
        dry(x, 0, 49, 85);
    }

    private static void sandForNine() {
        // Nine that no CELL serves two of: each one's first CELL, above it or, where none is, to its left.
        StringBuilder text = new StringBuilder("square 10 10;");
        for (int q = 0; q < 9; q++) {
            text.append("quarter ").append((char) ('a' + q)).append(" ").append(q % 3 * 4).append(" ").append(8 - q / 3 * 4).append(" 0 1;");
            text.append("cart 0 ").append(q % 3 * 4).append(" ").append(8 - q / 3 * 4).append(" 400 0;");
            text.append("cart 9 ").append(q % 3 * 4).append(" ").append(8 - q / 3 * 4).append(" 400 0;");
        }
        OrangeFight x = town(text.toString());
        x.on(13);
        dry(x, 0, 3, 7, 30, 34, 38, 70, 74, 78);
        x.sand(71);
        dry(x, 0, 3, 7, 30, 34, 38, 70, 74, 78);
        x.sand(44);
        dry(x, 0, 3, 7, 30, 38, 70, 74, 78);
    }
}
