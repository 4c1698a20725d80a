/**
 * The sentences on the tape and on texts (promises 1 to 6, 37, 41, the first part of Terms) that name an edge: one test
 * for each, with the sentence above it. What TextsTest holds already is not told here again.
 */
public final class TextEdgesTest {
    private static final Checks CHECKS = new Checks();
    private static final String SQUARE = "square 6 4;";
    private static final String TOWN = SQUARE + "quarter a 0 0 10 5;quarter b 3 0 10 3;";
    private static final String[] TOLD_WORDS = {"square", "quarter", "cart", "cap", "drain", "judge", "spot", "law", "feint",
        "or", "and", "not", "feints", "joins", "boxes", "marks", "wounds", "aim", "sees", "place"};
    private static final String[] SORTS = {"cap", "drain", "judge"};

    public static void main(String[] args) {
        newObject();
        fedBytes();
        refusedFeed();
        refusedEnd();
        emptyTape();
        whatIsCutOff();
        blanks();
        letters();
        digits();
        runsGoOn();
        square();
        withoutSquare();
        quarterLine();
        cartLine();
        sorts();
        spots();
        laws();
        names();
        full();
        emptyTown();
        plansEdges();
        refusedTexts();
        conds();
        within();
        numbersInSentences();
        townEndsAt900();
        plansEndAt400();
        sentenceEndsAt200();
        counts();
        CHECKS.close();
    }

    private static String pad(String text, int size) {
        return text + " ".repeat(size - text.length());
    }

    private static OrangeFight inTown() {
        OrangeFight x = new OrangeFight();
        CHECKS.reads(x, 't', TOWN, 3, 0);
        return x;
    }

    private static void town(String text, int lines) {
        CHECKS.reads(new OrangeFight(), 't', text, lines, 0);
    }

    /** The FAULT lies where the bad part begins. */
    private static void townFault(String ahead, String bad, int kind) {
        CHECKS.reads(new OrangeFight(), 't', ahead + bad, -1 - ahead.length(), kind);
    }

    private static void plansFault(String ahead, String bad, int kind) {
        CHECKS.reads(inTown(), 'p', ahead + bad, -1 - ahead.length(), kind);
    }

    private static void sentence(String text, int ones) {
        CHECKS.reads(inTown(), 's', text, ones, 0);
    }

    private static void sentenceFault(String ahead, String bad, int kind) {
        CHECKS.reads(inTown(), 's', ahead + bad, -1 - ahead.length(), kind);
    }

    /** "An empty TOWN; an empty tape." */
    private static void newObject() {
        OrangeFight x = new OrangeFight();
        CHECKS.noSuch(x, "quarter", 0, 0);
        CHECKS.noSuch(x, "cart", 0, 0);
        CHECKS.noSuch(x, "cell", 0, 0);
        CHECKS.due("end(1) of an empty tape", x.end(1), false);
        CHECKS.due("end(0) of an empty tape", x.end(0), true);
        for (int what = 0; what < 8; what++) {
            CHECKS.due("now(" + what + ") of a new object", x.now(what), 0);
        }
        CHECKS.due("thrown", x.thrown(0, 0), -1);
        CHECKS.due("sand", x.sand(0), false);
        CHECKS.due("who", x.who(0, 0), -1);
        CHECKS.due("rests", x.rests(-1), 1);
        CHECKS.due("slippery", x.slippery(), 0);
        CHECKS.due("MINUTES go by", x.on(720), 720);
        CHECKS.due("all DAYS are gone", x.now(0), 3);
    }

    /** "Twenty bytes come behind the tape, of each number the highest first". */
    private static void fedBytes() {
        OrangeFight x = new OrangeFight();
        // One cart on the first day alone, its boxes worth 255, 128, 127, 1, 2 and no more behind end(8).
        CHECKS.due("feed", x.feed(0x010000ff, 0x807f0102, -1, -1, -1), 20);
        CHECKS.due("end(8)", x.end(8), true);
        CHECKS.due("days(4)", x.days(4), 255 + 128 + 127 + 1);
        // Bytes 17 to 20 are those of the last number, and the next feed comes behind them.
        CHECKS.due("feed", x.feed(0x20202020, 0x20202020, 0x20202020, 0x20202020, 0x20207371), 20);
        CHECKS.due("feed", x.feed(0x75617265, 0x20322033, 0x3b202020, 0x20202020, 0x20202020), 40);
        CHECKS.due("town", x.town(), 1);
        CHECKS.due("H", x.count(1), 3);
    }

    /** "NONE, and none come, if it would have more than 940." */
    private static void refusedFeed() {
        OrangeFight x = new OrangeFight();
        Checks.put(x, pad("square 2 2;", 921));
        CHECKS.due("feed at 921", x.feed(-1, -1, -1, -1, -1), -1);
        CHECKS.due("none came", x.count(8), 921);
        CHECKS.due("end(922)", x.end(922), false);
        CHECKS.due("end(900)", x.end(900), true);
        CHECKS.due("town", x.town(), 1);
        Checks.put(x, pad("square 2 3;", 920));
        CHECKS.due("feed at 920", x.feed(0, 0, 0, 0, 0), 940);
        CHECKS.due("feed at 940", x.feed(0, 0, 0, 0, 0), -1);
        CHECKS.due("the tape is as it was", x.end(900), true);
        CHECKS.due("town", x.town(), 1);
        CHECKS.due("H", x.count(1), 3);
    }

    /** "The tape has its first n bytes alone: true; false, if it has not so many, or n is below 0." */
    private static void refusedEnd() {
        OrangeFight x = new OrangeFight();
        Checks.put(x, "square 2 2;square");
        int[] refused = {18, 19, 940, 941, -1, Integer.MIN_VALUE, Integer.MAX_VALUE};
        for (int n : refused) {
            CHECKS.due("end(" + n + ")", x.end(n), false);
            CHECKS.due("the tape stays", x.count(8), 17);
        }
        CHECKS.due("end(17)", x.end(17), true);
        CHECKS.due("the tape stays", x.count(8), 17);
        CHECKS.due("end(11)", x.end(11), true);
        CHECKS.due("end(12): they are gone", x.end(12), false);
        CHECKS.due("town", x.town(), 1);
    }

    /** Of nothing: a TOWN without LINES, no PLANS, but no SENTENCE; "the end: how many bytes there are". */
    private static void emptyTape() {
        OrangeFight x = inTown();
        CHECKS.reads(x, 'p', "a 1 1;", 1, 0);
        CHECKS.reads(x, 'p', "", 0, 0);
        CHECKS.due("no PLANS now", x.count(7), 0);
        CHECKS.due("no plan now", x.quarter(0, 6), -1);
        CHECKS.reads(x, 's', "", -1, 1);
        CHECKS.reads(x, 's', " \n ", -4, 1);
        CHECKS.reads(x, 't', "", 0, 0);
        CHECKS.due("an empty TOWN", x.count(0) + x.count(1) + x.count(2), 0);
    }

    /** "The tape has its first n bytes alone": what stood behind them is not read, by any call. */
    private static void whatIsCutOff() {
        OrangeFight x = inTown();
        Checks.put(x, "feints12");
        CHECKS.due("end(6)", x.end(6), true);
        CHECKS.due("sentence", x.sentence(), 1);
        Checks.put(x, "b 1 19;;");
        CHECKS.due("end(5)", x.end(5), true);
        CHECKS.due("plans", x.plans(), -6);
        Checks.put(x, "b 1 19;;");
        CHECKS.due("end(7)", x.end(7), true);
        CHECKS.due("plans", x.plans(), 1);
        Checks.put(x, 1, 1, 1, 5, 7);
        CHECKS.due("end(4)", x.end(4), true);
        CHECKS.due("days", x.days(9), 15);
        Checks.put(x, 0, 0, 0, 0, 100, 255, 255, 255, 255, 255);
        CHECKS.due("end(5)", x.end(5), true);
        CHECKS.due("look", x.look(), 10000);
        Checks.put(x, 1, 1, 255, 255);
        CHECKS.due("end(2)", x.end(2), true);
        CHECKS.due("table", x.table(), 1);
        Checks.put(x, "square 2 10;");
        CHECKS.due("end(10)", x.end(10), true);
        CHECKS.due("town", x.town(), -10);
        CHECKS.due("H is 1", x.fault(), 2);
        Checks.put(x, "square 2 2;square 2 2;");
        CHECKS.due("end(11)", x.end(11), true);
        CHECKS.due("town", x.town(), 1);
    }

    /** "with blanks (32, 10) between them or not": no other byte is a blank. */
    private static void blanks() {
        for (int b = 0; b < 256; b++) {
            String text = SQUARE + (char) b + "law 1 1 1 1;";
            CHECKS.reads(new OrangeFight(), 't', text, b == 32 || b == 10 ? 2 : -12, b == 32 || b == 10 ? 0 : 1);
        }
        town("\n\n square\n6   4\n;\n", 1);
        town(SQUARE + "cap 0 0;cap\n1\n0;cap 2 0 ;", 4);
        sentence("(feints)and(feints)or not(aim<1)", 7);
        sentence(" \n aim \n > \n 1 \n ", 1);
    }

    /** "WORDS: small letters, 1 to 7": which bytes, how few, how many; each letter counts. */
    private static void letters() {
        for (int b = 0; b < 256; b++) {
            if (b != 32 && b != 10) {
                boolean small = b >= 'a' && b <= 'z';
                CHECKS.reads(new OrangeFight(), 't', SQUARE + "quarter " + (char) b + " 0 0 1 1;", small ? 2 : -20, small ? 0 : 1);
            }
        }
        town(SQUARE + "quarter abcdefg 0 0 1 1;quarter abcdefh 1 0 1 1;quarter bbcdefg 2 0 1 1;", 4);
        town(SQUARE + "quarter zzzzzzz 0 0 1 1;spot zzzzzzz 1 1;", 3);
        townFault(SQUARE + "quarter zzzzzzz 0 0 1 1;quarter ", "zzzzzzz 1 1 1 1;", 3);
        townFault(SQUARE + "quarter ", "abcdefgh 0 0 1 1;", 1);
        townFault(SQUARE + "quarter abcdefg 0 0 1 1;spot ", "abcdefgh 0 0;", 1);
        town(SQUARE + "quarter a 0 0 1 1;quarter aa 1 0 1 1;quarter aaa 2 0 1 1;quarter aaaaaaa 3 0 1 1;", 5);
        townFault(SQUARE + "quarter aa 0 0 1 1;spot ", "a 1 1;", 3);
    }

    /** "NUMBERS: 1 to 3 digits": which bytes, how many. */
    private static void digits() {
        for (int b = 0; b < 256; b++) {
            if (b != 32 && b != 10) {
                boolean digit = b >= '0' && b <= '9';
                CHECKS.reads(new OrangeFight(), 't', SQUARE + "cart " + (char) b + " 0 0 1 1;", digit ? 2 : -17, digit ? 0 : 1);
            }
        }
        OrangeFight x = new OrangeFight();
        CHECKS.reads(x, 't', SQUARE + "cart 9 0 0 399 1;cart 007 01 002 010 009;", 3, 0);
        CHECKS.due("399", x.cart(0, 2), 399);
        CHECKS.due("007", x.cart(1, 1), 7);
        CHECKS.due("01 002", x.cart(1, 0), 21);
        CHECKS.due("010", x.cart(1, 2), 10);
        townFault(SQUARE + "cart ", "0009 0 0 1 1;", 1);
        townFault(SQUARE + "cart ", "1000 0 0 1 1;", 1);
        townFault(SQUARE + "cart ", "999 0 0 1 1;", 2);
        townFault(SQUARE + "cart ", "-1 0 0 1 1;", 1);
    }

    /** "A WORD, NUMBER goes on as long as small letters and digits do; what is not as told is no TOKEN." */
    private static void runsGoOn() {
        townFault("", "square6 4;", 1);
        townFault("square 6 ", "4a;", 1);
        townFault("square 6 ", "a4;", 1);
        townFault(SQUARE + "quarter ", "a1 0 0 1 1;", 1);
        townFault(SQUARE + "quarter ", "1a 0 0 1 1;", 1);
        sentenceFault("aim<", "1or feints", 1);
        sentenceFault("", "feintsor feints", 1);
        sentenceFault("", "not1 feints", 1);
        // Another byte ends them, and is looked at by itself.
        townFault("square 6 4", ".;", 1);
        townFault("square 6 4", "A;", 1);
        townFault("square 6 4", (char) 255 + ";", 1);
    }

    /** "'square' W H (2 to 10 both; once, ahead of all that has X and Y)". */
    private static void square() {
        for (int n = 0; n < 14; n++) {
            if (n >= 2 && n <= 10) {
                OrangeFight x = new OrangeFight();
                CHECKS.reads(x, 't', "square " + n + " 2;", 1, 0);
                CHECKS.due("W", x.count(0), n);
                CHECKS.reads(x, 't', "square 2 " + n + ";", 1, 0);
                CHECKS.due("H", x.count(1), n);
            } else {
                townFault("square ", n + " 2;", 2);
                townFault("square 2 ", n + ";", 2);
            }
        }
        townFault("square 2 2;", "square 2 2;", 3);
        townFault("square 2 2;", "square", 3);
        town("law 1 1 1 0;" + SQUARE, 2);
    }

    /** "2 a NUMBER that is not as told (at it; X, Y without a square, too)". */
    private static void withoutSquare() {
        String[] ahead = {"quarter a ", "cart 0 ", "cap ", "drain ", "judge "};
        for (String line : ahead) {
            townFault(line, "0 0 1 1;" + SQUARE, 2);
            townFault(line, "a 0 1 1;", 1);
            townFault(line, ";", 1);
        }
        townFault("spot ", "a 0 0;", 3);
    }

    /** "'quarter' NAME X Y BOXES AIM (0 to 400; 1 to 9)", "X from 0, below W, Y from 0, below H". */
    private static void quarterLine() {
        town(SQUARE + "quarter a 0 0 0 1;quarter b 5 3 400 9;", 3);
        townFault(SQUARE + "quarter a ", "6 0 1 1;", 2);
        townFault(SQUARE + "quarter a 5 ", "4 1 1;", 2);
        townFault(SQUARE + "quarter a 5 3 ", "401 1;", 2);
        townFault(SQUARE + "quarter a 5 3 1 ", "0;", 2);
        townFault(SQUARE + "quarter a 5 3 1 ", "10;", 2);
        townFault(SQUARE + "quarter a 5 3 1", ";", 1);
        townFault(SQUARE + "quarter a 5 3 1 1 ", "1;", 1);
        townFault(SQUARE + "quarter ", "5 3 1 1;", 1);
    }

    /** "'cart' MINUTE X Y BOXES PADS (0 to 239; 0 to 400; 0 to 9)". */
    private static void cartLine() {
        town(SQUARE + "cart 0 0 0 0 0;cart 239 5 3 400 9;cart 239 5 3 400 9;", 4);
        townFault(SQUARE + "cart ", "240 0 0 0 0;", 2);
        townFault(SQUARE + "cart 0 ", "6 0 0 0;", 2);
        townFault(SQUARE + "cart 0 0 ", "4 0 0;", 2);
        townFault(SQUARE + "cart 0 0 0 ", "401 0;", 2);
        townFault(SQUARE + "cart 0 0 0 0 ", "10;", 2);
        townFault(SQUARE + "cart 0 0 0 0", ";", 1);
        townFault(SQUARE + "cart 0 0 0 0 0 ", "0;", 1);
    }

    /** "'cap' X Y | 'drain' X Y | 'judge' X Y (each sort and CELL once)"; "a CELL .. already, each sort (at Y)". */
    private static void sorts() {
        for (String sort : SORTS) {
            town(SQUARE + sort + " 0 0;" + sort + " 5 3;", 3);
            townFault(SQUARE + sort + " ", "6 0;", 2);
            townFault(SQUARE + sort + " 0 ", "4;", 2);
            townFault(SQUARE + sort + " 5 3;" + sort + " 5 ", "3;", 3);
            townFault(SQUARE + sort + " 0 0;" + sort + " 0 ", "0;", 3);
            townFault(SQUARE + sort + " 0", ";", 1);
            townFault(SQUARE + sort + " 0 0 ", "0;", 1);
            for (String other : SORTS) {
                if (!other.equals(sort)) {
                    town(SQUARE + other + " 5 3;" + sort + " 5 3;quarter a 5 3 1 1;cart 0 5 3 0 0;", 5);
                    town(SQUARE + "quarter a 5 3 1 1;" + other + " 5 3;" + sort + " 5 3;", 4);
                }
            }
        }
        // "QUARTERS (on unlike CELLS)"
        townFault(TOWN + "quarter c 3 ", "0 1 1;", 3);
        town(TOWN + "quarter c 3 1 1 1;quarter d 4 0 1 1;", 5);
    }

    /** "'spot' QUARTER X Y (each QUARTER once)"; "3 a NAME .. not told, what is told once told again (at the QUARTER ..)". */
    private static void spots() {
        OrangeFight x = new OrangeFight();
        CHECKS.reads(x, 't', TOWN + "cap 5 3;spot b 5 3;spot a 5 3;", 6, 0);
        CHECKS.due("a's spot", x.quarter(0, 9), 35);
        CHECKS.due("b's spot", x.quarter(1, 9), 35);
        town(TOWN + "spot a 3 0;spot b 0 0;", 5);
        townFault(TOWN + "spot a ", "6 0;", 2);
        townFault(TOWN + "spot a 5 ", "4;", 2);
        townFault(TOWN + "spot a 5 3;spot ", "a 0 0;", 3);
        townFault(TOWN + "spot ", "c 0 0;quarter c 1 1 1 1;", 3);
        // Where it is told again its NAME is at fault, ahead of what is wrong behind it.
        townFault(TOWN + "spot b 1 1;spot ", "b 9 9;", 3);
    }

    /** "'law' AIM BOLD JOIN HURT (0 to 9 each; once; 1 1 1 0 without)". */
    private static void laws() {
        town("law 0 0 0 0;", 1);
        town("law 9 9 9 9;", 1);
        townFault("law ", "10 0 0 0;", 2);
        townFault("law 0 ", "10 0 0;", 2);
        townFault("law 0 0 ", "10 0;", 2);
        townFault("law 0 0 0 ", "10;", 2);
        townFault("law 0 0 0", ";", 1);
        townFault("law 1 1 1 0;", "law", 3);
        // Without: two that are JOINED have a HIT of 7 each, BOLD 2, JOIN 1, and nothing less for what hurts.
        String two = "square 6 4;quarter a 0 0 9 5;quarter b 0 1 9 5;cart 0 1 0 0 0;judge 0 0;";
        OrangeFight x = CHECKS.inTown(two, "a 2 1;b 2 1;");
        CHECKS.due("without a law", x.sure(0), 10);
        Checks.put(x, two + "law 2 3 4 5;");
        CHECKS.due("with one", x.town(), 6);
        Checks.put(x, "a 2 1;b 2 1;");
        CHECKS.due("PLANS", x.plans(), 2);
        CHECKS.due("marks by it", x.sure(0), 14 + 6 + 4 - 5);
        Checks.put(x, two);
        CHECKS.due("and without again", x.town(), 5);
        Checks.put(x, "a 2 1;b 2 1;");
        CHECKS.due("PLANS", x.plans(), 2);
        CHECKS.due("marks without again", x.sure(0), 10);
    }

    /** "NAME: a WORD, none of those told here, in PLANS or in a SENTENCE; told once." */
    private static void names() {
        for (String word : TOLD_WORDS) {
            townFault(SQUARE + "quarter ", word + " 0 0 1 1;", 1);
            townFault(SQUARE + "spot ", word + " 0 0;", 1);
            plansFault("", word + " 1 1;", 1);
            sentenceFault("joins ", word, 1);
        }
        String[] alike = {"squar", "carts", "joinss", "o", "an", "no", "feintss", "laws", "aims", "placee"};
        for (String word : alike) {
            town(SQUARE + "quarter " + word + " 0 0 1 1;", 2);
        }
        // Told twice: at the NAME, whatever is wrong behind it.
        townFault(TOWN + "quarter ", "b 9 9 999 0;", 3);
    }

    /** "9 QUARTERS, 20 CARTS, 12 caps, drains, judges each at most": each by itself, full all at once. */
    private static void full() {
        StringBuilder text = new StringBuilder("square 10 10;");
        for (int q = 0; q < 9; q++) {
            text.append("quarter ").append((char) ('a' + q)).append(' ').append(q).append(" 9 1 1;");
        }
        for (int c = 0; c < 20; c++) {
            text.append("cart 0 ").append(c % 10).append(" 0 0 0;");
        }
        for (int i = 0; i < 12; i++) {
            for (String sort : SORTS) {
                text.append(sort).append(i % 10).append(' ').append(i / 10).append(';');
            }
        }
        // A WORD goes on with digits: so blanks are wanted behind the sorts.
        String told = text.toString().replaceAll("(cap|drain|judge)", "$1 ");
        CHECKS.due("it is no longer than 900", told.length() <= 900, true);
        OrangeFight x = new OrangeFight();
        CHECKS.reads(x, 't', told, 66, 0);
        int[] counts = {10, 10, 9, 20, 12, 12, 12, 0, 0};
        for (int what = 0; what < counts.length; what++) {
            CHECKS.due("count(" + what + ")", x.count(what), counts[what]);
        }
        CHECKS.due("the ninth", x.quarter(8, 0), 98);
        CHECKS.noSuch(x, "quarter", 9, 0);
        CHECKS.due("the twentieth", x.cart(19, 0), 9);
        CHECKS.noSuch(x, "cart", 20, 0);
        for (String one : new String[] {"quarter", "cart", "cap", "drain", "judge"}) {
            CHECKS.reads(x, 't', told + one, -1 - told.length(), 4);
        }
        // The full TOWN stays; an empty one may follow, and a full one again.
        CHECKS.due("QUARTERS", x.count(2), 9);
        CHECKS.reads(x, 't', "", 0, 0);
        CHECKS.due("none is left", x.count(2) + x.count(3) + x.count(4) + x.count(5) + x.count(6), 0);
        CHECKS.reads(x, 't', told, 66, 0);
        CHECKS.due("caps again", x.count(4), 12);
    }

    /** A TOWN of LINES that put nothing into it: a square alone, a law alone. */
    private static void emptyTown() {
        OrangeFight x = new OrangeFight();
        CHECKS.reads(x, 't', "law 1 2 3 4;", 1, 0);
        CHECKS.noSuch(x, "cell", 0, 0);
        CHECKS.reads(x, 't', "square 2 2;", 1, 0);
        CHECKS.due("a CELL", x.cell(11, 1), -1);
        CHECKS.reads(x, 'p', "a 1 1;", -1, 3);
        CHECKS.reads(x, 's', "joins a", -7, 3);
        CHECKS.reads(x, 's', "feints", 1, 0);
        CHECKS.due("of no QUARTER", x.said(-1), 0);
    }

    /** "{ QUARTER NEAR EACH [ 'feint' ] ; } (0 to 18; 0 to 99; each QUARTER once)". */
    private static void plansEdges() {
        CHECKS.reads(inTown(), 'p', "b 0 0;a 18 99 feint;", 2, 0);
        plansFault("a ", "19 1;", 2);
        plansFault("a 18 ", "100;", 2);
        plansFault("a 1 1;b 1 1;", "a 1 1;", 3);
        plansFault("a 1 1;", "c 1 1;", 3);
        plansFault("a 1 1 ", "b 1 1;", 1);
        plansFault("a 1 1 feint", "", 1);
        plansFault("a 1 1;", ";", 1);
        plansFault("b", "", 1);
        plansFault("b 1 ", "", 1);
        // All nine of nine.
        StringBuilder nine = new StringBuilder("square 10 10;");
        StringBuilder plans = new StringBuilder();
        for (int q = 0; q < 9; q++) {
            nine.append("quarter ").append((char) ('a' + q)).append(' ').append(q).append(" 0 1 1;");
            plans.append((char) ('a' + q)).append(" 18 99 feint;");
        }
        OrangeFight x = new OrangeFight();
        CHECKS.reads(x, 't', nine.toString(), 10, 0);
        CHECKS.reads(x, 'p', plans.toString(), 9, 0);
        CHECKS.due("PLANS", x.count(7), 9);
        CHECKS.due("the ninth one feints", x.quarter(8, 8), 1);
        CHECKS.reads(x, 'p', plans + "i 1 1;", -1 - plans.length(), 3);
        CHECKS.due("PLANS stay", x.count(7), 9);
    }

    /** "it stays", "they stay": a text with a FAULT changes nothing, however much of it is well told. */
    private static void refusedTexts() {
        OrangeFight x = CHECKS.inTown("square 3 2;quarter a 0 0 9 5;quarter b 1 0 9 5;cart 0 2 0 9 0;judge 0 0;drain 0 1;cap 2 1;"
            + "spot a 1 1;law 1 2 3 4;", "a 5 5 feint;");
        CHECKS.reads(x, 's', "not feints", 2, 0);
        x.begin(5);
        x.on(2);
        x.sand(0);
        int[] before = State.of(x);
        int sure = x.sure(0);
        CHECKS.reads(x, 't', "square 9 9;quarter c 8 8 1 1;cart 1 1 1 1 1;cap 1 1;drain 1 1;judge 1 1;spot c 1 1;law 9 9 9 9;law", -96, 3);
        CHECKS.reads(x, 'p', "b 1 1 feint;a 2 2;a", -19, 3);
        CHECKS.reads(x, 's', "feints or joins c", -17, 3);
        CHECKS.due("all is as it was", State.same(State.of(x), before), true);
        CHECKS.due("the law, too", x.sure(0), sure);
        // And without one fault() answers 0 again.
        CHECKS.reads(x, 's', "feints", 1, 0);
    }

    /** "COND: ALL { 'or' ALL }. ALL: ONE { 'and' ONE }": none of either is empty; "20 ONES": all of them count. */
    private static void conds() {
        sentenceFault("feints or ", "or feints", 1);
        sentenceFault("feints and ", "or feints", 1);
        sentenceFault("(", ")", 1);
        sentenceFault("feints or (", ")", 1);
        sentenceFault("not ", ")", 1);
        sentenceFault("(feints", "", 1);
        sentenceFault("(feints", ";", 1);
        sentenceFault("feints", ")", 1);
        sentenceFault("feints ", "not feints", 1);
        sentenceFault("", "and feints", 1);
        sentence("not feints and not feints and not feints and not feints and not feints and not feints and not feints "
            + "and not feints and not feints and not feints", 20);
        sentenceFault("not feints and not feints and not feints and not feints and not feints and not feints and not feints "
            + "and not feints and not feints and not feints and ", "not feints", 4);
        sentenceFault("(aim<1)or(aim<1)or(aim<1)or(aim<1)or(aim<1)or(aim<1)or(aim<1)or(aim<1)or(aim<1)or feints or(", "aim<1)", 4);
        // A fault of kind 1 at the 21st is the least of that TOKEN.
        sentenceFault("aim<1 or ".repeat(20), "or", 1);
        sentenceFault("aim<1 or ".repeat(20), "(", 4);
    }

    /** "8 within one another", "a ninth within (at its first TOKEN)". */
    private static void within() {
        sentence("((((not not(feints)))))", 8);
        sentence("not(not(not(not feints)))", 8);
        sentenceFault("not(not(not(not(", "feints))))", 4);
        sentenceFault("((((((((", "not feints))))))))", 4);
        sentenceFault("(((((((feints and (", "feints))))))))", 4);
        // Beside one another they are not within.
        sentence("((((((feints))))))or((((((feints))))))and feints or not feints", 17);
        sentenceFault("((((((((", "a", 1);
    }

    /** "SIGN NUMBER": any NUMBER will do. */
    private static void numbersInSentences() {
        sentence("boxes<0 or marks=999 or wounds>000 or aim<010", 4);
        sentenceFault("boxes<", "1000", 1);
        sentenceFault("boxes<", "0000", 1);
        sentenceFault("boxes<", "=1", 1);
        sentenceFault("boxes ", "1", 1);
        sentenceFault("joins ", "<1", 1);
        sentence("joins a and joins b", 2);
    }

    /** "a text of at most 900 bytes"; "the most bytes told, if there are more and no FAULT is ahead: TOKENS .. read whole". */
    private static void townEndsAt900() {
        town(pad(TOWN, 900), 3);
        CHECKS.reads(new OrangeFight(), 't', pad(TOWN, 901), -901, 1);
        CHECKS.reads(new OrangeFight(), 't', pad(TOWN, 940), -901, 1);
        // A FAULT ahead is told first; one that begins at byte 900 is none of its own kind.
        townFault(TOWN + "cart ", pad("240 0 0 0 0;", 886), 2);
        atTheEnd(900, TOWN + "cart", "240 0 0 0 0;", 2);
        atTheEnd(900, TOWN + "cap 0", "4;", 2);
        atTheEnd(900, TOWN + "cap 0 0;cap 0", "0;", 3);
        atTheEnd(900, TOWN + "quarter", "a 1 1 1 1;", 3);
        atTheEnd(900, TOWN + "spot", "longest 1 1;", 3);
        atTheEnd(900, TOWN, "square 2 2;", 3);
        atTheEnd(900, TOWN, "toolongword", 1);
        atTheEnd(900, SQUARE + "cart 0 0 0 0 0;".repeat(20), "cart 0 0 0 0 0;", 4);
        // The last LINE's end is the last byte, or there is a LINE without an end.
        town(pad(TOWN + "law 1 1 1 0", 899) + ";", 4);
        CHECKS.reads(new OrangeFight(), 't', pad(TOWN + "law 1 1 1 0", 900) + ";", -901, 1);
        CHECKS.reads(new OrangeFight(), 't', pad(TOWN + "law 1 1 1 0", 900), -901, 1);
    }

    /** "a text of at most 400 bytes". */
    private static void plansEndAt400() {
        CHECKS.reads(inTown(), 'p', pad("a 1 1;", 400), 1, 0);
        CHECKS.reads(inTown(), 'p', pad("a 1 1;", 401), -401, 1);
        CHECKS.reads(inTown(), 'p', pad("a 1 1;", 900), -401, 1);
        CHECKS.reads(inTown(), 'p', pad("a 1 1", 399) + ";", 1, 0);
        CHECKS.reads(inTown(), 'p', pad("a 1 1", 400) + ";", -401, 1);
        plansAtTheEnd("a 1 1;", "a 1 1;", 3);
        plansAtTheEnd("a", "19 1;", 2);
        plansAtTheEnd("a 1", "100;", 2);
    }

    /** "a text of at most 200 bytes". */
    private static void sentenceEndsAt200() {
        sentence(pad("feints", 200), 1);
        CHECKS.reads(inTown(), 's', pad("feints", 201), -201, 1);
        CHECKS.reads(inTown(), 's', pad("feints", 940), -201, 1);
        sentence(pad("feints or", 194) + "feints", 2);
        CHECKS.reads(inTown(), 's', pad("feints or", 195) + "feints", -201, 1);
        CHECKS.reads(inTown(), 's', pad("feints or", 194) + "feintss", -195, 1);
        sentenceAtTheEnd("joins", "c", 3);
        sentenceAtTheEnd("joins a and", "joins b", 0);
        sentenceAtTheEnd("aim<1 or ".repeat(20), "feints", 4);
        sentenceAtTheEnd("((((((((", "feints", 4);
    }

    /** One byte ahead of the end the FAULT is told by its kind (0: there is none but that of the length), at it by kind 1. */
    private static void atTheEnd(int most, String ahead, String bad, int kind) {
        CHECKS.reads(new OrangeFight(), 't', pad(ahead, most - 1) + bad, -most, kind);
        CHECKS.reads(new OrangeFight(), 't', pad(ahead, most) + bad, -1 - most, 1);
    }

    private static void plansAtTheEnd(String ahead, String bad, int kind) {
        CHECKS.reads(inTown(), 'p', pad(ahead, 399) + bad, -400, kind);
        CHECKS.reads(inTown(), 'p', pad(ahead, 400) + bad, -401, 1);
    }

    private static void sentenceAtTheEnd(String ahead, String bad, int kind) {
        CHECKS.reads(inTown(), 's', pad(ahead, 199) + bad, kind == 0 ? -201 : -200, kind == 0 ? 1 : kind);
        CHECKS.reads(inTown(), 's', pad(ahead, 200) + bad, -201, 1);
    }

    /** "NONE for another what." */
    private static void counts() {
        OrangeFight x = CHECKS.inTown(TOWN + "cart 0 0 0 0 0;cap 1 1;cap 2 1;drain 1 1;drain 2 1;drain 3 1;judge 0 0;", "b 1 1;");
        Checks.put(x, 1, 2, 3);
        int[] want = {6, 4, 2, 1, 2, 3, 1, 1, 3};
        for (int what = 0; what < want.length; what++) {
            CHECKS.due("count(" + what + ")", x.count(what), want[what]);
        }
        int[] others = {-1, 9, 10, Integer.MIN_VALUE, Integer.MAX_VALUE};
        for (int what : others) {
            CHECKS.due("count(" + what + ")", x.count(what), -1);
        }
    }
}
