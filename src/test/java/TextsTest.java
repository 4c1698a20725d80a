/** Promises 1 to 6, 37 and 41: the tape, the three texts and their FAULTS, with places and kinds worked out by hand. */
public final class TextsTest {
    private static final Checks CHECKS = new Checks();
    private static final String TOWN = "square 6 4;quarter a 0 0 10 5;quarter b 3 0 10 3;";

    public static void main(String[] args) {
        newObject();
        tape();
        tokens();
        townFaults();
        townLimits();
        lengths();
        plansFaults();
        sentenceFaults();
        faultStays();
        CHECKS.close();
    }

    private static void town(String text, int want, int kind) {
        read(new OrangeFight(), 't', text, want, kind);
    }

    private static void plans(String text, int want, int kind) {
        read(inTown(), 'p', text, want, kind);
    }

    private static void sentence(String text, int want, int kind) {
        read(inTown(), 's', text, want, kind);
    }

    private static OrangeFight inTown() {
        OrangeFight x = new OrangeFight();
        read(x, 't', TOWN, 3, 0);
        return x;
    }

    private static void read(OrangeFight x, char sort, String text, int want, int kind) {
        CHECKS.reads(x, sort, text, want, kind);
    }

    private static String times(String piece, int n) {
        return piece.repeat(n);
    }

    private static void newObject() {
        OrangeFight x = new OrangeFight();
        for (int what = 0; what < 9; what++) {
            CHECKS.due("count(" + what + ") of a new object", x.count(what), 0);
        }
        CHECKS.due("count(-1)", x.count(-1), -1);
        CHECKS.due("count(9)", x.count(9), -1);
        CHECKS.due("fault of a new object", x.fault(), 0);
        CHECKS.due("NONE", OrangeFight.NONE, -1);
    }

    private static void tape() {
        OrangeFight x = new OrangeFight();
        for (int i = 1; i <= 47; i++) {
            CHECKS.due("feed " + i, x.feed(-1, 0, 0, 0, i), 20 * i);
        }
        CHECKS.due("feed beyond 940", x.feed(0, 0, 0, 0, 0), -1);
        CHECKS.due("the tape then", x.count(8), 940);
        CHECKS.due("end(941)", x.end(941), false);
        CHECKS.due("end(-1)", x.end(-1), false);
        CHECKS.due("end(940)", x.end(940), true);
        CHECKS.due("end(921)", x.end(921), true);
        CHECKS.due("feed to 941", x.feed(0, 0, 0, 0, 0), -1);
        CHECKS.due("end(920)", x.end(920), true);
        CHECKS.due("feed to 940", x.feed(0, 0, 0, 0, 0), 940);
        CHECKS.due("end(0)", x.end(0), true);
        CHECKS.due("end(1)", x.end(1), false);
        // The highest byte of each number comes first: 2 carts a day, a box worth 255.
        CHECKS.due("feed", x.feed(0x020202ff, 0, 0, 0, 0), 20);
        CHECKS.due("end(4)", x.end(4), true);
        CHECKS.due("days(2)", x.days(2), 510);
    }

    private static void tokens() {
        town("", 0, 0);
        town(" \n ", 0, 0);
        town("square 10 2 ;\n", 1, 0);
        town("square\n2\n10;law 0 9 0 9;", 2, 0);
        town("square10 2;", -1, 1);
        town("square 10a 2;", -8, 1);
        town("square 1 0 2;", -8, 2);
        town("square 0002 2;", -8, 1);
        town("square 002 02;", 1, 0);
        town("squares 2 2;", -1, 1);
        town("squaresq 2 2;", -1, 1);
        town("Square 2 2;", -1, 1);
        town("\tsquare 2 2;", -1, 1);
        town("square 2 2;;", -12, 1);
        town("square 2 2", -11, 1);
        town("square 2 2 ", -12, 1);
        town("square 2;", -9, 1);
        town("square 2 2 2;", -12, 1);
        town("square = 2;", -8, 1);
        town("(", -1, 1);
        town((char) 233 + "", -1, 1);
        town("feint 2 2;", -1, 1);
        town("2;", -1, 1);
    }

    private static void townFaults() {
        town("square 11 2;", -8, 2);
        town("square 2 11;", -10, 2);
        town("square 2 1;", -10, 2);
        town("square 2 2;square 2 2;", -12, 3);
        town("law 1 1 1 1;square 2 2;law 1 1 1 1;", -24, 3);
        town("law 1 1 10 1;", -9, 2);
        town("cart 0 0 0 1 1;", -8, 2);
        town("cap 0 0;", -5, 2);
        town("cap x 0;", -5, 1);
        town("spot a 0 0;", -6, 3);
        town("spot cart 0 0;", -6, 1);
        town("quarter law 0 0 1 1;", -9, 1);
        town("quarter not 0 0 1 1;", -9, 1);
        town("quarter 1 0 0 1 1;", -9, 1);
        town(TOWN + "quarter a 9 9 9 9;", -58, 3);
        town(TOWN + "quarter c 6 0 1 1;", -60, 2);
        town(TOWN + "quarter c 3 0 1 1;", -62, 3);
        town(TOWN + "quarter c 3 4 1 1;", -62, 2);
        town(TOWN + "quarter c 3 1 401 1;", -64, 2);
        town(TOWN + "quarter c 3 1 400 10;", -68, 2);
        town(TOWN + "quarter c 3 1 400 9;", 4, 0);
        town(TOWN + "spot b 3 0;spot b 1 1;", -66, 3);
        town(TOWN + "spot b 6 0;", -57, 2);
        town(TOWN + "cart 239 3 0 400 9;cart 239 3 0 0 0;", 5, 0);
        town(TOWN + "cart 240 3 0 0 0;", -55, 2);
        town(TOWN + "cart 0 3 0 401 0;", -61, 2);
        town(TOWN + "cart 0 3 0 0 10;", -63, 2);
        // Each sort is looked at by itself.
        town(TOWN + "cap 3 0;drain 3 0;judge 3 0;", 6, 0);
        town(TOWN + "judge 3 0;judge 3 0;", -68, 3);
        town(TOWN + "drain 3 0;drain 3 0;", -68, 3);
    }

    private static void townLimits() {
        StringBuilder nine = new StringBuilder("square 10 10;");
        for (int q = 0; q < 9; q++) {
            nine.append("quarter ").append((char) ('a' + q)).append(" ").append(q).append(" 0 1 1;");
        }
        town(nine.toString(), 10, 0);
        town(nine + "quarter a 0 0 1 1;", -1 - nine.length(), 4);
        town(nine + "quarter", -1 - nine.length(), 4);
        String carts = "square 2 2;" + times("cart 0 0 0 0 0;", 20);
        town(carts, 21, 0);
        town(carts + "cart", -1 - carts.length(), 4);
        for (String sort : new String[] {"cap", "drain", "judge"}) {
            StringBuilder twelve = new StringBuilder("square 4 4;");
            for (int i = 0; i < 12; i++) {
                twelve.append(sort).append(" ").append(i % 4).append(" ").append(i / 4).append(";");
            }
            town(twelve.toString(), 13, 0);
            town(twelve + sort + " 0 0;", -1 - twelve.length(), 4);
        }
    }

    private static void lengths() {
        String square = "square 2 2;";
        town(square + times(" ", 889), 1, 0);
        town(square + times(" ", 890), -901, 1);
        town(square + times(" ", 880) + "lawlawlawlaw", -892, 1);
        town(square + times(" ", 887) + "law 1 1 1 1;", -901, 1);
        // A TOKEN that begins ahead of byte 900 is read whole, be it as told or not.
        town(square + "law 1 1 1" + times(" ", 879) + "10;", -900, 2);
        town(square + "law 1 1 1" + times(" ", 879) + "01;", -901, 1);
        town(square + "law 1 1 1" + times(" ", 878) + "1;", 2, 0);
        town(square + "law 1 1 1" + times(" ", 878) + "1; ", -901, 1);
        town("square 2 2" + times(" ", 889) + ";", 1, 0);
        town("square 2 2" + times(" ", 890) + ";", -901, 1);
        town(square + times(" ", 880) + "cart 200 " + "0 0 0 0;", -901, 1);
        town(square + times(" ", 881) + "cart 200 " + "0 0 0 0;", -901, 1);
        town(square + times(" ", 888) + ";" + times(" ", 20), -900, 1);
        plans("a 1 1;" + times("\n", 394), 1, 0);
        plans("a 1 1;" + times("\n", 395), -401, 1);
        sentence("feints" + times(" ", 194), 1, 0);
        sentence("feints" + times(" ", 195), -201, 1);
        sentence("feints" + times(" ", 194) + "x", -201, 1);
        sentence("feints" + times(" ", 193) + "xx", -200, 1);
    }

    private static void plansFaults() {
        plans("", 0, 0);
        plans("b 18 99 feint;a 0 0;", 2, 0);
        plans("c 1 1;", -1, 3);
        plans("a 1 1;a 1 1;", -7, 3);
        plans("a 19 1;", -3, 2);
        plans("a 18 100;", -6, 2);
        plans("a 1 1 feints;", -7, 1);
        plans("a 1 1 feint feint;", -13, 1);
        plans("a 1 1", -6, 1);
        plans("a 1;", -4, 1);
        plans("feint 1 1;", -1, 1);
        plans("1 1 1;", -1, 1);
        OrangeFight x = inTown();
        read(x, 'p', "b 9 5 feint;", 1, 0);
        CHECKS.due("plans", x.count(7), 1);
        CHECKS.due("no plan", x.quarter(0, 6) + x.quarter(0, 7) + x.quarter(0, 8), -3);
        CHECKS.due("NEAR", x.quarter(1, 6), 9);
        CHECKS.due("EACH", x.quarter(1, 7), 5);
        CHECKS.due("feint", x.quarter(1, 8), 1);
        read(x, 'p', "a 1 2;b 100 1;", -9, 2);
        CHECKS.due("plans stay", x.count(7), 1);
        CHECKS.due("no plan still", x.quarter(0, 6), -1);
        read(x, 'p', "a 1 2;", 1, 0);
        CHECKS.due("the old plan is gone", x.quarter(1, 6), -1);
        CHECKS.due("no feint", x.quarter(0, 8), 0);
    }

    private static void sentenceFaults() {
        sentence("not not feints", 3, 0);
        sentence("(feints)", 2, 0);
        sentence("feints or feints and(not feints)", 5, 0);
        sentence("joins a and place=0 or sees>999", 3, 0);
        sentence("feints feints", -8, 1);
        sentence("feints and", -11, 1);
        sentence("or", -1, 1);
        sentence("()", -2, 1);
        sentence("joins", -6, 1);
        sentence("joins c", -7, 3);
        sentence("joins sees", -7, 1);
        sentence("joins 1", -7, 1);
        sentence("boxes", -6, 1);
        sentence("boxes (", -7, 1);
        sentence("boxes <", -8, 1);
        sentence("boxes < a", -9, 1);
        sentence("boxes << 1", -8, 1);
        sentence("a", -1, 1);
        sentence("feints;", -7, 1);
        sentence(times("(", 8) + "feints" + times(")", 8), -9, 4);
        sentence(times("(", 7) + "feints" + times(")", 7), 8, 0);
        sentence(times("not ", 7) + "(feints)", -30, 4);
        sentence(times("(", 8) + "cart", -9, 1);
        sentence(times("(", 8), -9, 1);
        sentence(times("feints or ", 19) + "aim<1", 20, 0);
        sentence(times("aim<1 or ", 20) + "feints", -181, 4);
        sentence(times("aim<1 or ", 20) + "cap", -181, 1);
        sentence(times("aim<1 or ", 20), -181, 1);
        sentence(times("aim<1or ", 20), -5, 1);
    }

    private static void faultStays() {
        OrangeFight x = inTown();
        read(x, 's', "feints", 1, 0);
        CHECKS.due("said of none", x.said(-1), 0);
        read(x, 's', "not feints or", -14, 1);
        CHECKS.due("the old SENTENCE stays", x.said(-1), 0);
        x.days(0);
        CHECKS.due("fault() is of texts alone", x.fault(), 1);
        x.on(3);
        read(x, 't', "square 2 2;square", -12, 3);
        CHECKS.due("the old TOWN stays", x.count(0), 6);
        CHECKS.due("its MINUTE, too", x.now(1), 3);
        CHECKS.due("sand", x.sand(3), true);
        read(x, 'p', "a 2 2;", 1, 0);
        read(x, 't', "square 9 9;quarter a 0 0 1 1;", 2, 0);
        CHECKS.due("MINUTE of a new TOWN", x.now(1), 0);
        CHECKS.due("PLANS of a new TOWN", x.count(7), 0);
        CHECKS.due("plan in a new TOWN", x.quarter(0, 6), -1);
        CHECKS.due("SENTENCE of a new TOWN", x.said(-1), -1);
        CHECKS.due("sand of a new TOWN", x.cell(3, 5), 0);
    }
}
