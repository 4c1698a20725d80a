import java.nio.charset.StandardCharsets;
import java.util.NoSuchElementException;

/** What the tests share: counting wrong answers, and putting texts and bytes on a tape. */
final class Checks {
    private int wrong;
    private int asked;

    void due(String what, long got, long want) {
        asked++;
        if (got != want) {
            wrong++;
            if (wrong <= 40) {
                System.out.println(what + " answered " + got + ", due is " + want);
            }
        }
    }

    void due(String what, boolean got, boolean want) {
        due(what, got ? 1 : 0, want ? 1 : 0);
    }

    void due(String what, long got, boolean want) {
        due(what, got, want ? 1 : 0);
    }

    boolean isRight() {
        return wrong == 0;
    }

    /** The last line of a test: exit code 1 if an answer was wrong. */
    void close() {
        System.out.println(wrong == 0 ? asked + " answers are as due" : wrong + " of " + asked + " answers are not as due");
        if (wrong != 0) {
            System.exit(1);
        }
    }

    /** A new object in a TOWN with PLANS, both of which must be well told. */
    OrangeFight inTown(String town, String plans) {
        OrangeFight x = new OrangeFight();
        put(x, town);
        due("town '" + town + "' is well told", x.town() > 0, true);
        put(x, plans);
        due("plans '" + plans + "' are well told", x.plans() >= 0, true);
        return x;
    }

    /** Puts a text on the tape and reads it as a TOWN (t), PLANS (p) or a SENTENCE (s): the answer, the FAULT, the tape. */
    void reads(OrangeFight x, char sort, String text, int want, int kind) {
        put(x, text);
        int got = sort == 't' ? x.town() : sort == 'p' ? x.plans() : x.sentence();
        due(sort + " '" + text + "'", got, want);
        due("fault of '" + text + "'", x.fault(), kind);
        due("the tape behind '" + text + "'", x.count(8), 0);
    }

    /** Asks for what there is not: the call must throw NoSuchElementException. */
    void noSuch(OrangeFight x, String call, int of, int what) {
        boolean threw = false;
        try {
            int got = call.equals("quarter") ? x.quarter(of, what) : call.equals("cart") ? x.cart(of, what) : x.cell(of, what);
            due(call + "(" + of + ", " + what + ") where none is due", got, Long.MIN_VALUE);
        } catch (NoSuchElementException e) {
            threw = true;
        }
        due(call + "(" + of + ", " + what + ") throws", threw, true);
    }

    /** The five numbers of the feed() that brings the bytes from a place on, zeros behind their end. */
    static int[] numbers(byte[] bytes, int from) {
        int[] fed = new int[5];
        for (int i = 0; i < 20; i++) {
            int b = from + i < bytes.length ? bytes[from + i] & 255 : 0;
            fed[i / 4] = fed[i / 4] << 8 | b;
        }
        return fed;
    }

    /** Empties the tape and puts the bytes on it. */
    static void put(OrangeFight x, byte[] bytes) {
        x.end(0);
        for (int from = 0; from < bytes.length; from += 20) {
            int[] n = numbers(bytes, from);
            x.feed(n[0], n[1], n[2], n[3], n[4]);
        }
        x.end(bytes.length);
    }

    static void put(OrangeFight x, String text) {
        put(x, text.getBytes(StandardCharsets.ISO_8859_1));
    }

    static void put(OrangeFight x, int... bytes) {
        byte[] row = new byte[bytes.length];
        for (int i = 0; i < bytes.length; i++) {
            row[i] = (byte) bytes[i];
        }
        put(x, row);
    }
}
