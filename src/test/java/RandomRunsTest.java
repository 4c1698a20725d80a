import java.nio.charset.StandardCharsets;
import java.util.NoSuchElementException;
import java.util.Random;

/** Runs of random calls (seeded, so always the same) on an OrangeFight and on the PlainFight: all answers must be alike. */
public final class RandomRunsTest {
    private static final int RUNS = 700;
    private static final String[] WORDS = {"square", "quarter", "cart", "cap", "drain", "judge", "spot", "law", "feint",
        "or", "and", "not", "feints", "joins", "boxes", "marks", "wounds", "aim", "sees", "place", "a", "b", "zz", "longest",
        "toolongg", "7", "07", "400", "1000", ";", "<", "=", ">", "(", ")", "\n", "+", "a1"};

    private final Checks checks = new Checks();
    private final Random random;
    private final OrangeFight x = new OrangeFight();
    private final PlainFight plain = new PlainFight();
    private final int run;
    private int quarters;
    private int width = 4;
    private int height = 4;

    private RandomRunsTest(int run) {
        this.run = run;
        random = new Random(run * 7919L + 13);
    }

    public static void main(String[] args) {
        boolean right = true;
        for (int run = 0; run < RUNS && right; run++) {
            right = new RandomRunsTest(run).play();
        }
        System.out.println(right ? RUNS + " runs are alike" : "a run is not alike");
        if (!right) {
            System.exit(1);
        }
    }

    private boolean play() {
        int calls = run % 10 == 9 ? 400 : 120;
        if (random.nextInt(8) > 0) {
            tellTown();
            tellPlans();
        }
        for (int i = 0; i < calls && checks.isRight(); i++) {
            step();
        }
        return checks.isRight();
    }

    private int below(int n) {
        return random.nextInt(n);
    }

    private int oneOf(int... row) {
        return row[below(row.length)];
    }

    private void due(String call, int got, int want) {
        checks.due("run " + run + ": " + call, got, want);
    }

    private void due(String call, boolean got, boolean want) {
        checks.due("run " + run + ": " + call, got, want);
    }

    private void put(byte[] bytes) {
        for (int from = 0; from < bytes.length; from += 20) {
            int[] n = Checks.numbers(bytes, from);
            due("feed", x.feed(n[0], n[1], n[2], n[3], n[4]), plain.feed(n[0], n[1], n[2], n[3], n[4]));
        }
        due("end", x.end(bytes.length), plain.end(bytes.length));
    }

    private void put(String text) {
        due("end(0)", x.end(0), plain.end(0));
        put(text.getBytes(StandardCharsets.ISO_8859_1));
    }

    // ---- texts

    /** Mostly as it is; at times a piece is taken away, put in or put twice, or the text is made too long. */
    private String spoiled(String text, int most) {
        StringBuilder s = new StringBuilder(text);
        if (below(4) == 0 && s.length() > 0) {
            int at = below(s.length());
            switch (below(5)) {
                case 0: s.deleteCharAt(at); break;
                case 1: s.insert(at, WORDS[below(WORDS.length)]); break;
                case 2: s.insert(at, " " + WORDS[below(WORDS.length)] + " "); break;
                case 3: s.setCharAt(at, (char) below(256)); break;
                default: s.setLength(at); break;
            }
        }
        if (below(12) == 0) {
            while (s.length() < most + below(8) - 3) s.append(below(9) == 0 ? WORDS[below(20)] : " ");
        }
        return s.length() > 940 ? s.substring(0, 940) : s.toString();
    }

    private String blank() {
        return below(5) == 0 ? "\n " : " ";
    }

    private String at() {
        return below(width) + blank() + below(height);
    }

    private void tellTown() {
        width = 2 + below(9);
        height = 2 + below(9);
        int full = below(4);
        int most = full == 0 ? 9 : 5;
        StringBuilder s = new StringBuilder("square " + width + blank() + height + ";");
        quarters = 0;
        int want = below(most + 1);
        boolean[] taken = new boolean[100];
        for (int i = 0; i < want; i++) {
            int qx = below(width);
            int qy = below(height);
            if (taken[10 * qy + qx] && below(40) > 0) continue;
            taken[10 * qy + qx] = true;
            int boxes = oneOf(0, 3, 9, 60, 400, 20);
            s.append("quarter " + (char) ('a' + quarters) + " " + qx + " " + qy + " " + boxes + " " + (1 + below(9)) + ";");
            quarters++;
        }
        int carts = full == 0 ? below(21) : below(9);
        int span = oneOf(4, 12, 240);
        for (int i = 0; i < carts; i++) {
            int minute = span < 240 && below(6) == 0 ? 239 - below(6) : below(span);
            s.append("cart " + minute + " " + at() + " " + oneOf(0, 2, 30) + " " + oneOf(0, 0, 1, 3, 9) + ";");
        }
        things(s, "cap", below(3));
        things(s, "drain", below(4));
        things(s, "judge", below(7));
        for (int q = 0; q < quarters; q++) {
            if (below(2) == 0) s.append("spot " + (char) ('a' + q) + " " + at() + ";");
        }
        if (below(2) == 0) s.append("law " + below(10) + " " + below(10) + " " + below(10) + " " + below(10) + ";");
        put(spoiled(s.toString(), 900));
        due("town of " + s, x.town(), plain.town());
        due("fault", x.fault(), plain.fault());
    }

    private void things(StringBuilder s, String word, int many) {
        boolean[] taken = new boolean[100];
        for (int i = 0; i < many; i++) {
            int tx = below(width);
            int ty = below(height);
            if (taken[10 * ty + tx] && below(30) > 0) continue;
            taken[10 * ty + tx] = true;
            s.append(word + " " + tx + " " + ty + ";");
        }
    }

    private void tellPlans() {
        StringBuilder s = new StringBuilder();
        for (int q = 0; q < quarters; q++) {
            if (below(5) == 0) continue;
            s.append((char) ('a' + q) + " " + oneOf(0, 1, 3, 6, 9, 18) + blank() + oneOf(0, 1, 2, 3, 9, 99)
                + (below(3) == 0 ? " feint" : "") + ";");
        }
        put(spoiled(s.toString(), 400));
        due("plans of " + s, x.plans(), plain.plans());
        due("fault", x.fault(), plain.fault());
    }

    private String cond(int depth) {
        String s = one(depth);
        for (int i = below(4); i < 2; i++) s += (below(2) == 0 ? " and " : " or ") + one(depth);
        return s;
    }

    private String one(int depth) {
        int kind = below(depth > 5 && below(6) > 0 ? 4 : 7);
        if (kind == 6) return "not " + one(depth + 1);
        if (kind > 3) return "(" + cond(depth + 1) + ")";
        if (kind == 0) return "feints";
        if (kind == 1) return "joins " + (char) ('a' + below(quarters + 1));
        String[] measures = {"boxes", "marks", "wounds", "aim", "sees", "place"};
        return measures[below(6)] + blank() + "<=>".charAt(below(3)) + " " + oneOf(0, 1, 2, 3, 5, 20, 400);
    }

    private void tellSentence() {
        String s = cond(1);
        put(spoiled(s.length() > 230 ? s.substring(0, 230) : s, 200));
        due("sentence of " + s, x.sentence(), plain.sentence());
        due("fault", x.fault(), plain.fault());
    }

    private void tellWords() {
        StringBuilder s = new StringBuilder();
        for (int i = below(9); i > 0; i--) s.append(WORDS[below(WORDS.length)]).append(below(3) == 0 ? "" : " ");
        put(s.toString());
        switch (below(3)) {
            case 0: due("town of " + s, x.town(), plain.town()); break;
            case 1: due("plans of " + s, x.plans(), plain.plans()); break;
            default: due("sentence of " + s, x.sentence(), plain.sentence()); break;
        }
        due("fault", x.fault(), plain.fault());
    }

    // ---- calls

    private int q() {
        return below(12) == 0 ? oneOf(-2, -1, 9, 10, Integer.MAX_VALUE, Integer.MIN_VALUE) : below(Math.max(1, quarters));
    }

    private int small(int most) {
        return below(15) == 0 ? oneOf(-1, -2, most, most + 1, Integer.MIN_VALUE, Integer.MAX_VALUE) : below(most);
    }

    private void step() {
        switch (below(40)) {
            case 0: if (below(6) == 0) tellTown(); else allThatIsSo(); break;
            case 1: tellPlans(); break;
            case 2: tellSentence(); said(); break;
            case 3: tellWords(); break;
            case 4: begin(); break;
            case 5: case 6: case 7: case 8: on(oneOf(1, 1, 1, 2, 3, 5)); break;
            case 9: on(oneOf(20, 100, 236, 240, 720, 721, 0, -1)); break;
            case 10: sand(small(100)); break;
            case 11: { int q = q(); int m = small(240); due("aims", x.aims(q, m), plain.aims(q, m)); break; }
            case 12: { int q = q(); due("sure", x.sure(q), plain.sure(q)); break; }
            case 13: grid(); break;
            case 14: if (below(12) == 0) { int q = q(); due("best", x.best(q), plain.best(q)); } break;
            case 15: days(); break;
            case 16: { int q = q(); int s = spots(); due("stand", x.stand(q, s), plain.stand(q, s)); break; }
            case 17: if (below(10) == 0) { int k = below(5) - 1; due("rests", x.rests(k), plain.rests(k)); } break;
            case 18: { int a = q(); int b = q(); due("join", x.join(a, b), plain.join(a, b)); break; }
            case 19: look(); break;
            case 20: walk(); break;
            case 21: if (plain.count(3) < 7 || below(8) == 0) due("order", x.order(), plain.order()); break;
            case 22: { int i = small(8); due("comes", x.comes(i), plain.comes(i)); break; }
            case 23: case 24: slippery(); break;
            case 25: table(); break;
            case 26: { int i = small(6); int j = small(6); int w = small(2); due("against", x.against(i, j, w), plain.against(i, j, w)); break; }
            case 27: { int j = small(6); due("reply", x.reply(j), plain.reply(j)); break; }
            case 28: { int c = small(20); int h = small(14); due("who", x.who(c, h), plain.who(c, h)); break; }
            case 29: odds(); break;
            case 30: said(); break;
            case 31: { int k = small(2); due("image", x.image(k), plain.image(k)); break; }
            case 32: { int k = small(2); due("restore", x.restore(k), plain.restore(k)); allThatIsSo(); break; }
            case 33: fewBytes(); break;
            default: ask(); break;
        }
    }

    private int spots() {
        int s = below(1 << Math.max(1, quarters));
        if (below(4) > 0) {
            for (int q = 0; q < plain.count(2); q++) if (plain.quarter(q, 9) < 0) s &= ~(1 << q);
        }
        return below(15) == 0 ? oneOf(-1, 512, Integer.MIN_VALUE) : s;
    }

    private void begin() {
        int seed = random.nextInt();
        x.begin(seed);
        plain.begin(seed);
    }

    private void on(int n) {
        due("on", x.on(n), plain.on(n));
        for (int k = -1; k < 10; k++) {
            for (int w = -1; w < 7; w++) due("thrown(" + k + ", " + w + ")", x.thrown(k, w), plain.thrown(k, w));
        }
        allThatIsSo();
    }

    private void sand(int at) {
        due("sand", x.sand(at), plain.sand(at));
    }

    private void grid() {
        int q = q();
        int near = small(19);
        int each = below(3) == 0 ? small(100) : below(6);
        due("grid", x.grid(q, near, each), plain.grid(q, near, each));
    }

    private void days() {
        byte[] row = new byte[3 + below(11)];
        random.nextBytes(row);
        if (below(2) == 0) for (int i = 0; i < row.length; i++) row[i] = (byte) (row[i] & 3);
        put(row);
        int n = below(3) == 0 ? small(10000) : below(40);
        due("days", x.days(n), plain.days(n));
        for (int d = -1; d < 4; d++) due("rows", x.rows(d), plain.rows(d));
    }

    private void look() {
        int many = below(4) == 0 ? below(14) : 1 + below(3);
        byte[] rows = new byte[5 * many + (below(10) == 0 ? 1 : 0)];
        for (int i = 0; i + 4 < rows.length; i += 5) {
            rows[i] = (byte) (below(20) == 0 ? below(256) : below(14));
            rows[i + 1] = (byte) (below(30) == 0 ? 2 : below(2));
            rows[i + 2] = (byte) (below(30) == 0 ? 9 : below(4));
            rows[i + 3] = (byte) (below(30) == 0 ? 2 : below(2));
            int marks = 100 + 2 * rows[i] + 2 * rows[i + 1] + 3 * rows[i + 2] - 4 * rows[i + 3];
            rows[i + 4] = (byte) (below(5) == 0 ? below(256) : marks);
        }
        put(rows);
        due("look", x.look(), plain.look());
        for (int i = 0; i < 6; i++) {
            int k = small(110);
            due("held", x.held(k), plain.held(k));
        }
    }

    private void walk() {
        int j = small(14);
        int q = small(11);
        int r = small(9);
        int k = small(12);
        due("walk", x.walk(j, q), plain.walk(j, q));
        due("alike", x.alike(j, q, r, k), plain.alike(j, q, r, k));
    }

    private void slippery() {
        int wet = 0;
        for (int q = 0; q < plain.count(2); q++) wet += plain.cell(plain.quarter(q, 0), 0) > 9 ? 1 : 0;
        if (wet > 5) return;
        due("slippery", x.slippery(), plain.slippery());
        for (int i = -1; i < 7; i++) due("dry", x.dry(i), plain.dry(i));
    }

    private void table() {
        byte[] row = new byte[below(10) == 0 ? below(15) : 2 + 2 * below(3)];
        for (int i = 0; i < row.length; i++) row[i] = (byte) (below(30) == 0 ? below(256) : i % 2 == 0 ? below(12) : below(6));
        put(row);
        due("table", x.table(), plain.table());
        for (int i = -1; i < 4; i++) {
            due("reply", x.reply(i), plain.reply(i));
            for (int j = -1; j < 4; j++) {
                for (int w = -1; w < 3; w++) due("against", x.against(i, j, w), plain.against(i, j, w));
            }
        }
    }

    private void odds() {
        int q = q();
        int n = below(10) == 0 ? small(61) : 1 + below(4);
        int seed = below(9) == 0 ? Integer.MAX_VALUE - 1 : random.nextInt();
        due("odds", x.odds(q, n, seed), plain.odds(q, n, seed));
    }

    private void said() {
        for (int k = -2; k < 10; k++) due("said(" + k + ")", x.said(k), plain.said(k));
    }

    private void fewBytes() {
        int a = random.nextInt();
        due("feed", x.feed(a, 0, a, -1, a), plain.feed(a, 0, a, -1, a));
        int n = small(30);
        due("end", x.end(n), plain.end(n));
    }

    private void ask() {
        int i = small(21);
        int w = small(11);
        askThrowing(below(3), i, w);
        askThrowing(2, small(100), w);
        due("now", x.now(w), plain.now(w));
        due("count", x.count(w), plain.count(w));
    }

    private void askThrowing(int which, int i, int w) {
        String call = (which == 0 ? "quarter(" : which == 1 ? "cart(" : "cell(") + i + ", " + w + ")";
        long want = Long.MIN_VALUE;
        long got = Long.MIN_VALUE;
        try {
            want = which == 0 ? plain.quarter(i, w) : which == 1 ? plain.cart(i, w) : plain.cell(i, w);
        } catch (NoSuchElementException e) {
            want = Long.MIN_VALUE;
        }
        try {
            got = which == 0 ? x.quarter(i, w) : which == 1 ? x.cart(i, w) : x.cell(i, w);
        } catch (NoSuchElementException e) {
            got = Long.MIN_VALUE;
        }
        checks.due("run " + run + ": " + call, got, want);
    }

    private void allThatIsSo() {
        for (int w = -1; w < 10; w++) {
            due("now(" + w + ")", x.now(w), plain.now(w));
            due("count(" + w + ")", x.count(w), plain.count(w));
        }
        for (int q = 0; q < plain.count(2); q++) for (int w = 0; w < 10; w++) askThrowing(0, q, w);
        for (int c = 0; c < plain.count(3); c++) for (int w = 0; w < 6; w++) askThrowing(1, c, w);
        for (int at = 0; at < 100; at++) askThrowing(2, at, at % 7 == 0 ? 5 : 0);
    }
}
