import java.util.ArrayList;
import java.util.Arrays;
import java.util.List;

/** All that an OrangeFight tells of what is so, in one row: a few hundred calls at most, so for small TOWNS alone. */
final class State {
    private State() {
    }

    static int[] of(OrangeFight x) {
        List<Integer> row = new ArrayList<>();
        for (int what = 0; what < 8; what++) {
            row.add(x.count(what));
            row.add(x.now(what));
        }
        int quarters = row.get(4);
        int carts = row.get(6);
        for (int q = 0; q < quarters; q++) {
            for (int what = 0; what < 10; what++) {
                row.add(x.quarter(q, what));
            }
            row.add(x.aims(q, 1));
            row.add(x.said(q));
        }
        for (int c = 0; c < carts; c++) {
            for (int what = 0; what < 6; what++) {
                row.add(x.cart(c, what));
            }
        }
        int width = row.get(0);
        int height = row.get(2);
        for (int at = 0; at < 10 * height; at++) {
            for (int what = 0; what < 6 && at % 10 < width; what++) {
                row.add(x.cell(at, what));
            }
        }
        for (int k = 0; x.thrown(k, 0) >= 0; k++) {
            for (int what = 0; what < 6; what++) {
                row.add(x.thrown(k, what));
            }
        }
        row.add(x.said(-1));
        return row.stream().mapToInt(i -> i).toArray();
    }

    static boolean same(int[] a, int[] b) {
        return Arrays.equals(a, b);
    }
}
