import java.util.NoSuchElementException;
import java.util.Random;

/** Any numbers in any state: quarter, cart and cell may throw NoSuchElementException, and nothing else is thrown at all. */
public final class WildCallsTest {
    private static final int[] EDGES = {Integer.MIN_VALUE, Integer.MIN_VALUE + 1, -10001, -2, -1, 0, 1, 2, 3, 5, 6, 7, 8, 9, 10,
        11, 12, 13, 18, 19, 20, 21, 31, 32, 33, 59, 60, 61, 99, 100, 101, 238, 239, 240, 241, 511, 512, 719, 720, 721, 9999, 10000,
        65536, 1 << 30, Integer.MAX_VALUE - 1, Integer.MAX_VALUE};
    private static final String FULL = fullTown();
    private static final String[] TOWNS = {"", "square 2 2;", "square 10 2;quarter a 9 1 400 9;", FULL,
        "square 2 10;cart 239 1 9 400 0;quarter a 1 9 400 1;judge 1 9;", "square 5 5;quarter a 2 2 9 9;quarter b 2 3 9 9;"
        + "cart 0 2 2 9 0;spot a 0 0;spot b 4 4;judge 2 2;drain 2 2;cap 0 0;law 9 9 9 9;"};
    private static final String[] PLANS = {"", "a 18 99 feint;", "a 9 9;b 3 3 feint;"};

    private final Random random = new Random(4711);
    private final Checks checks = new Checks();

    public static void main(String[] args) {
        new WildCallsTest().run();
    }

    private static String fullTown() {
        StringBuilder s = new StringBuilder("square 10 10;");
        for (int q = 0; q < 9; q++) s.append("quarter ").append((char) ('a' + q)).append(" ").append(q).append(" 9 400 9;");
        for (int c = 0; c < 20; c++) s.append("cart ").append(c * 8).append(" ").append(c % 10).append(" 8 400 0;");
        for (int i = 0; i < 12; i++) s.append("drain ").append(i % 10).append(" ").append(i / 10).append(";");
        for (int i = 0; i < 6; i++) s.append("judge ").append(i).append(" 9;");
        for (int q = 0; q < 6; q++) s.append("spot ").append((char) ('a' + q)).append(" 9 9;");
        return s.toString();
    }

    private int any() {
        return random.nextInt(12) == 0 ? random.nextInt() : EDGES[random.nextInt(EDGES.length)];
    }

    private void run() {
        checks.due("the full town fits", FULL.length() <= 900, true);
        for (int round = 0; round < 300; round++) {
            OrangeFight x = new OrangeFight();
            tell(x, round);
            for (int i = 0; i < 450; i++) {
                call(x, random.nextInt(42));
            }
        }
        checks.close();
    }

    private void tell(OrangeFight x, int round) {
        Checks.put(x, TOWNS[round % TOWNS.length]);
        checks.due("town " + round % TOWNS.length, x.town() >= 0, true);
        Checks.put(x, PLANS[random.nextInt(PLANS.length)]);
        x.plans();
    }

    private void call(OrangeFight x, int which) {
        try {
            if (which < 21) {
                callFirst(x, which);
            } else {
                callSecond(x, which);
            }
        } catch (NoSuchElementException e) {
            checks.due("call " + which + " throws NoSuchElementException", which >= 6 && which <= 8, true);
        } catch (RuntimeException e) {
            checks.due("call " + which + " throws " + e, 1, 0);
        }
    }

    private void callFirst(OrangeFight x, int which) {
        switch (which) {
            case 0: x.feed(any(), any(), any(), any(), any()); break;
            case 1: x.end(any()); break;
            case 2: if (random.nextInt(9) == 0) x.town(); break;
            case 3: x.plans(); break;
            case 4: x.fault(); break;
            case 5: x.count(any()); break;
            case 6: x.quarter(any(), any()); break;
            case 7: x.cart(any(), any()); break;
            case 8: x.cell(any(), any()); break;
            case 9: x.begin(any()); break;
            case 10: x.on(any()); break;
            case 11: x.now(any()); break;
            case 12: x.thrown(any(), any()); break;
            case 13: x.sand(any()); break;
            case 14: x.aims(any(), any()); break;
            case 15: x.sure(any()); break;
            case 16: x.grid(any(), any(), any()); break;
            case 17: x.best(any()); break;
            case 18: x.days(any()); break;
            case 19: x.rows(any()); break;
            default: x.stand(any(), any()); break;
        }
    }

    private void callSecond(OrangeFight x, int which) {
        switch (which) {
            case 21: x.rests(any()); break;
            case 22: x.join(any(), any()); break;
            case 23: x.look(); break;
            case 24: x.held(any()); break;
            case 25: x.walk(any(), any()); break;
            case 26: x.alike(any(), any(), any(), any()); break;
            case 27: x.order(); break;
            case 28: x.comes(any()); break;
            case 29: x.slippery(); break;
            case 30: x.dry(any()); break;
            case 31: x.table(); break;
            case 32: x.against(any(), any(), any()); break;
            case 33: x.reply(any()); break;
            case 34: x.who(any(), any()); break;
            case 35: x.odds(any(), any(), any()); break;
            case 36: x.sentence(); break;
            case 37: x.said(any()); break;
            case 38: x.image(any()); break;
            case 39: x.restore(any()); break;
            case 40: Checks.put(x, TOWNS[random.nextInt(TOWNS.length)]); break;
            default: Checks.put(x, "joins a or not (boxes<9 and marks>1)"); x.sentence(); break;
        }
    }
}
