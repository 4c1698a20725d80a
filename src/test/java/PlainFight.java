import java.util.ArrayList;
import java.util.List;
import java.util.NoSuchElementException;
import java.util.Set;

/**
 * The document told again in the slowest and plainest way, as a second opinion for the tests: every MINUTE is played,
 * a SURE DAY is a whole DAY played without slips, every row is tried.
 */
final class PlainFight {
    static final int NONE = -1;
    static final int NO = -10001;
    static final Set<String> TOLD_WORDS = Set.of("square", "quarter", "cart", "cap", "drain", "judge", "spot", "law",
        "feint", "or", "and", "not", "feints", "joins", "boxes", "marks", "wounds", "aim", "sees", "place");

    static final class Fault extends RuntimeException {
        private static final long serialVersionUID = 1;
        final int kind;
        final int place;

        Fault(int kind, int place) {
            this.kind = kind;
            this.place = place;
        }
    }

    record Token(char sort, String text, int place) { }

    record Plan(int near, int each, boolean feint) { }

    static final class Quarter {
        String name;
        int x, y, told, aim, sx = -1, sy = -1;
        Plan plan;
        int boxes, marks, wounds, more;
        int[] used = new int[20];

        Quarter copy() {
            Quarter o = new Quarter();
            o.name = name; o.x = x; o.y = y; o.told = told; o.aim = aim; o.sx = sx; o.sy = sy; o.plan = plan;
            o.boxes = boxes; o.marks = marks; o.wounds = wounds; o.more = more; o.used = used.clone();
            return o;
        }
    }

    static final class Cart {
        int minute, x, y, told, pads, boxes, hits;

        Cart copy() {
            Cart o = new Cart();
            o.minute = minute; o.x = x; o.y = y; o.told = told; o.pads = pads; o.boxes = boxes; o.hits = hits;
            return o;
        }
    }

    static final class World {
        int w, h, day, minute, seed, used, back, slipped, barred, feinted, plans;
        List<Quarter> quarters = new ArrayList<>();
        List<Cart> carts = new ArrayList<>();
        List<Integer> caps = new ArrayList<>(), drains = new ArrayList<>(), judges = new ArrayList<>();
        int[] law = {1, 1, 1, 0};
        int[] pulp = new int[100];
        boolean[] sand = new boolean[100];
        List<int[]> thrown = new ArrayList<>();
        String sentence;

        World copy() {
            World o = new World();
            o.w = w; o.h = h; o.day = day; o.minute = minute; o.seed = seed; o.used = used; o.back = back;
            o.slipped = slipped; o.barred = barred; o.feinted = feinted; o.plans = plans;
            for (Quarter q : quarters) o.quarters.add(q.copy());
            for (Cart c : carts) o.carts.add(c.copy());
            o.caps.addAll(caps); o.drains.addAll(drains); o.judges.addAll(judges);
            o.law = law.clone(); o.pulp = pulp.clone(); o.sand = sand.clone();
            for (int[] t : thrown) o.thrown.add(t.clone());
            o.sentence = sentence;
            return o;
        }

        void begin(int seed) {
            this.seed = seed;
            day = minute = used = back = slipped = barred = feinted = 0;
            thrown.clear();
            for (Quarter q : quarters) {
                q.boxes = q.told; q.marks = q.wounds = q.more = 0;
            }
            for (Cart c : carts) c.hits = 0;
            newDay();
        }

        void newDay() {
            pulp = new int[100];
            for (Quarter q : quarters) q.used = new int[20];
            for (Cart c : carts) c.boxes = c.told;
        }

        int draw(int n) {
            seed = seed * 1103515245 + 12345;
            return (seed >>> 8) % n;
        }

        int aim(Quarter q, int at) {
            int best = NONE;
            if (q.plan == null || q.boxes == 0) return NONE;
            for (int c = 0; c < carts.size(); c++) {
                Cart t = carts.get(c);
                if (at < t.minute || at > t.minute + 3 || at > 239) continue;
                if (far(q, t) > q.plan.near || q.used[c] >= q.plan.each) continue;
                if (best == NONE || far(q, t) < far(q, carts.get(best))) best = c;
            }
            return best;
        }

        boolean isBarred(Quarter q, Cart c) {
            boolean cap = false;
            for (int k : caps) cap |= steps(k % 10, k / 10, c.x, c.y) <= 1;
            return cap && far(q, c) >= 3;
        }

        int hit(Quarter q, Cart c) {
            int d = far(q, c);
            return Math.max(0, q.aim + q.more + (d <= 2 ? 2 : -d) - c.pads);
        }

        int judges(Quarter q) {
            int n = 0;
            for (int j : judges) if (steps(j % 10, j / 10, q.x, q.y) <= 4) n++;
            return n;
        }

        void minute(boolean sure) {
            thrown.clear();
            for (int i = 0; i < quarters.size(); i++) {
                Quarter q = quarters.get(i);
                int at = aim(q, minute);
                if (at == NONE) continue;
                Cart c = carts.get(at);
                int own = 10 * q.y + q.x;
                if (isBarred(q, c)) {
                    barred++;
                    thrown.add(new int[] {i, at, 0, 0, 0, 0});
                } else if (!sure && !sand[own] && draw(40) < pulp[own]) {
                    slipped++; used++; q.boxes--; q.used[at]++; pulp[own]++;
                    thrown.add(new int[] {i, at, 1, 0, 0, 0});
                } else if (q.plan.feint && minute % 2 == 1) {
                    feinted++; q.more = 2;
                    thrown.add(new int[] {i, at, 2, 0, 0, 0});
                } else {
                    int hit = hit(q, c);
                    q.more = 0; used++; q.boxes--; q.used[at]++; pulp[10 * c.y + c.x]++; c.hits += hit;
                    thrown.add(new int[] {i, at, far(q, c) <= 2 ? 3 : 4, hit, 0, 0});
                }
            }
            for (int[] t : thrown) {
                if (t[2] < 3) continue;
                for (int[] o : thrown) if (o != t && o[2] >= 3 && o[1] == t[1]) t[4]++;
                for (int k = 0; k < judges(quarters.get(t[0])); k++) {
                    t[5] += law[0] * t[3] + (t[2] == 3 ? 2 * law[1] : 0) + law[2] * t[4] - (t[3] >= 7 ? law[3] : 0);
                }
                quarters.get(t[0]).marks += t[5];
            }
            for (Cart c : carts) {
                if (minute < c.minute || minute > c.minute + 3 || c.boxes == 0) continue;
                Quarter best = null;
                for (Quarter q : quarters) {
                    if (far(q, c) <= 6 && (best == null || far(q, c) < far(best, c))) best = q;
                }
                if (best == null) continue;
                c.boxes--; back++;
                pulp[10 * best.y + best.x] += 2;
                best.wounds += 3 - far(best, c) / 2;
            }
            for (int d : drains) {
                for (int at = 0; at < 100; at++) {
                    if (steps(d % 10, d / 10, at % 10, at / 10) <= 1 && pulp[at] > 0) pulp[at]--;
                }
            }
            minute++;
            if (minute == 240) {
                day++;
                if (day < 3) {
                    minute = 0;
                    newDay();
                }
            }
        }

        World sureDay() {
            World o = copy();
            o.begin(0);
            for (int i = 0; i < 240; i++) o.minute(true);
            return o;
        }
    }

    static int steps(int ax, int ay, int bx, int by) {
        return Math.abs(ax - bx) + Math.abs(ay - by);
    }

    static int far(Quarter q, Cart c) {
        return steps(q.x, q.y, c.x, c.y);
    }

    World now = new World();
    World[] kept = new World[2];
    List<Integer> tape = new ArrayList<>();
    int fault;
    int[] rows;
    List<Integer> held, comes, dry;
    int[][][] table;

    int feed(int a, int b, int c, int d, int e) {
        if (tape.size() + 20 > 940) return NONE;
        for (int v : new int[] {a, b, c, d, e}) {
            for (int s = 24; s >= 0; s -= 8) tape.add(v >>> s & 255);
        }
        return tape.size();
    }

    boolean end(int n) {
        if (n < 0 || n > tape.size()) return false;
        tape = new ArrayList<>(tape.subList(0, n));
        return true;
    }

    // ---- texts

    private List<Token> tokens;
    private int next, lines, ones;

    private List<Token> tokensOf(int most) {
        List<Token> all = new ArrayList<>();
        int i = 0;
        while (true) {
            while (i < tape.size() && (tape.get(i) == 32 || tape.get(i) == 10)) i++;
            if (tape.size() > most && i >= most) {
                all.add(new Token('?', "", most));
                return all;
            }
            if (i >= tape.size()) {
                all.add(new Token('$', "", tape.size()));
                return all;
            }
            int from = i;
            StringBuilder text = new StringBuilder();
            while (i < tape.size() && (char) (int) tape.get(i) < 128
                && String.valueOf((char) (int) tape.get(i)).matches("[a-z0-9]")) {
                text.append((char) (int) tape.get(i++));
            }
            if (text.length() == 0) text.append((char) (int) tape.get(i++));
            String t = text.toString();
            char sort = t.matches("[a-z]{1,7}") ? 'w' : t.matches("[0-9]{1,3}") ? 'n' : t.matches("[;<=>()]") ? 's' : '?';
            all.add(new Token(sort, t, from));
            if (sort == '?') return all;
        }
    }

    private Token peek() {
        return tokens.get(Math.min(next, tokens.size() - 1));
    }

    private boolean is(String text) {
        return peek().sort != '?' && peek().sort != '$' && peek().text.equals(text);
    }

    private Fault bad(int kind) {
        return new Fault(kind, peek().place);
    }

    private void need(String text) {
        if (!is(text)) throw bad(1);
        next++;
    }

    private int number(int least, int most) {
        if (peek().sort != 'n') throw bad(1);
        int v = Integer.parseInt(peek().text);
        if (v < least || v > most) throw bad(2);
        next++;
        return v;
    }

    private Quarter named(World world) {
        if (peek().sort != 'w' || TOLD_WORDS.contains(peek().text)) throw bad(1);
        for (Quarter q : world.quarters) if (q.name.equals(peek().text)) return q;
        return null;
    }

    private int close(int answer, Fault f) {
        tape = new ArrayList<>();
        fault = f == null ? 0 : f.kind;
        return f == null ? answer : -1 - f.place;
    }

    int town() {
        World world = new World();
        try {
            tokens = tokensOf(900);
            next = 0;
            lines = 0;
            boolean law = false;
            while (peek().sort != '$') {
                law = line(world, law);
                need(";");
                lines++;
            }
        } catch (Fault f) {
            return close(0, f);
        }
        world.begin(0);
        now = world;
        return close(lines, null);
    }

    private boolean line(World world, boolean law) {
        String first = peek().sort == 'w' ? peek().text : "";
        boolean lawNow = law;
        switch (first) {
            case "square":
                if (world.w > 0) throw bad(3);
                next++;
                world.w = number(2, 10);
                world.h = number(2, 10);
                break;
            case "quarter": {
                if (world.quarters.size() == 9) throw bad(4);
                next++;
                if (named(world) != null) throw bad(3);
                Quarter q = new Quarter();
                q.name = peek().text;
                next++;
                List<Integer> taken = new ArrayList<>();
                for (Quarter o : world.quarters) taken.add(10 * o.y + o.x);
                int at = place(world, taken);
                q.x = at % 10;
                q.y = at / 10;
                q.told = number(0, 400);
                q.aim = number(1, 9);
                world.quarters.add(q);
                break;
            }
            case "cart": {
                if (world.carts.size() == 20) throw bad(4);
                next++;
                Cart c = new Cart();
                c.minute = number(0, 239);
                int at = place(world, List.of());
                c.x = at % 10;
                c.y = at / 10;
                c.told = number(0, 400);
                c.pads = number(0, 9);
                world.carts.add(c);
                break;
            }
            case "cap": case "drain": case "judge": {
                List<Integer> list = first.equals("cap") ? world.caps : first.equals("drain") ? world.drains : world.judges;
                if (list.size() == 12) throw bad(4);
                next++;
                list.add(place(world, list));
                break;
            }
            case "spot": {
                next++;
                Quarter q = named(world);
                if (q == null || q.sx >= 0) throw bad(3);
                next++;
                int at = place(world, List.of());
                q.sx = at % 10;
                q.sy = at / 10;
                break;
            }
            case "law":
                if (law) throw bad(3);
                next++;
                for (int i = 0; i < 4; i++) world.law[i] = number(0, 9);
                lawNow = true;
                break;
            default:
                throw bad(1);
        }
        return lawNow;
    }

    private int place(World world, List<Integer> taken) {
        int x = number(0, world.w - 1);
        int before = next;
        int at = 10 * number(0, world.h - 1) + x;
        if (taken.contains(at)) {
            next = before;
            throw bad(3);
        }
        return at;
    }

    int plans() {
        Plan[] told = new Plan[9];
        int many = 0;
        try {
            tokens = tokensOf(400);
            next = 0;
            while (peek().sort != '$') {
                Quarter q = named(now);
                int i = now.quarters.indexOf(q);
                if (q == null || told[i] != null) throw bad(3);
                next++;
                int near = number(0, 18);
                int each = number(0, 99);
                boolean feint = is("feint");
                if (feint) next++;
                need(";");
                told[i] = new Plan(near, each, feint);
                many++;
            }
        } catch (Fault f) {
            return close(0, f);
        }
        for (int i = 0; i < now.quarters.size(); i++) now.quarters.get(i).plan = told[i];
        now.plans = many;
        return close(many, null);
    }

    int fault() {
        return fault;
    }

    int sentence() {
        StringBuilder text = new StringBuilder();
        for (int b : tape) text.append((char) b);
        try {
            tokens = tokensOf(200);
            next = 0;
            ones = 0;
            cond(null, 1);
            if (peek().sort != '$') throw bad(1);
        } catch (Fault f) {
            return close(0, f);
        }
        now.sentence = text.toString();
        return close(ones, null);
    }

    private boolean cond(Quarter of, int depth) {
        boolean holds = all(of, depth);
        while (is("or")) {
            next++;
            holds |= all(of, depth);
        }
        return holds;
    }

    private boolean all(Quarter of, int depth) {
        boolean holds = one(of, depth);
        while (is("and")) {
            next++;
            holds &= one(of, depth);
        }
        return holds;
    }

    private boolean one(Quarter of, int depth) {
        String first = is("(") || peek().sort == 'w' ? peek().text : "";
        if (!Set.of("(", "not", "feints", "joins", "boxes", "marks", "wounds", "aim", "sees", "place").contains(first)) {
            throw bad(1);
        }
        if (ones == 20 || depth == 9) throw bad(4);
        ones++;
        next++;
        if (first.equals("(")) {
            boolean in = cond(of, depth + 1);
            need(")");
            return in;
        }
        if (first.equals("not")) return !one(of, depth + 1);
        if (first.equals("feints")) return of != null && of.plan != null && of.plan.feint;
        if (first.equals("joins")) {
            Quarter other = named(now);
            if (other == null) throw bad(3);
            next++;
            return of != null && of != other && now.aim(of, now.minute) != NONE
                && now.aim(of, now.minute) == now.aim(other, now.minute);
        }
        String sign = peek().text;
        if (!is("<") && !is("=") && !is(">")) throw bad(1);
        next++;
        int with = number(0, 999);
        if (of == null) return false;
        int have = first.equals("boxes") ? of.boxes : first.equals("marks") ? of.marks : first.equals("wounds") ? of.wounds
            : first.equals("aim") ? of.aim : first.equals("sees") ? now.judges(of) : now.quarters.indexOf(of);
        return sign.equals("<") ? have < with : sign.equals(">") ? have > with : have == with;
    }

    int said(int k) {
        if (now.sentence == null) return NONE;
        List<Integer> list = new ArrayList<>();
        List<Integer> before = tape;
        tape = new ArrayList<>();
        for (char c : now.sentence.toCharArray()) tape.add((int) c);
        tokens = tokensOf(200);
        tape = before;
        for (int i = 0; i < now.quarters.size(); i++) {
            next = 0;
            ones = 0;
            if (cond(now.quarters.get(i), 1)) list.add(i);
        }
        return k == NONE ? list.size() : get(list, k);
    }

    private static int get(List<Integer> list, int k) {
        return list == null || k < 0 || k >= list.size() ? NONE : list.get(k);
    }

    // ---- what is so

    boolean isQuarter(int q) {
        return q >= 0 && q < now.quarters.size();
    }

    boolean isCell(int at) {
        return at >= 0 && at < 100 && at % 10 < now.w && at / 10 < now.h;
    }

    int quarter(int i, int what) {
        if (!isQuarter(i) || what < 0 || what > 9) throw new NoSuchElementException();
        Quarter q = now.quarters.get(i);
        Plan p = q.plan == null ? new Plan(NONE, NONE, false) : q.plan;
        return new int[] {10 * q.y + q.x, q.aim, q.boxes, q.marks, q.wounds, q.more, p.near, p.each,
            q.plan == null ? NONE : p.feint ? 1 : 0, q.sx < 0 ? NONE : 10 * q.sy + q.sx}[what];
    }

    int cart(int i, int what) {
        if (i < 0 || i >= now.carts.size() || what < 0 || what > 5) throw new NoSuchElementException();
        Cart c = now.carts.get(i);
        int there = now.day < 3 && now.minute >= c.minute && now.minute <= c.minute + 3 ? 1 : 0;
        return new int[] {10 * c.y + c.x, c.minute, c.boxes, c.pads, c.hits, there}[what];
    }

    int cell(int at, int what) {
        if (!isCell(at) || what < 0 || what > 5) throw new NoSuchElementException();
        int who = NONE;
        for (Quarter q : now.quarters) if (10 * q.y + q.x == at) who = now.quarters.indexOf(q);
        return new int[] {now.pulp[at], who, now.caps.contains(at) ? 1 : 0, now.drains.contains(at) ? 1 : 0,
            now.judges.contains(at) ? 1 : 0, now.sand[at] ? 1 : 0}[what];
    }

    void begin(int seed) {
        now.begin(seed);
    }

    int on(int n) {
        if (n < 1 || n > 720) return NONE;
        int did = 0;
        while (did < n && now.day < 3) {
            now.minute(false);
            did++;
        }
        return did;
    }

    int now(int what) {
        int all = 0;
        for (int p : now.pulp) all += p;
        int[] row = {now.day, now.minute, now.used, now.back, now.slipped, now.barred, now.feinted, all};
        return what < 0 || what > 7 ? NONE : row[what];
    }

    int thrown(int k, int what) {
        return k < 0 || k >= now.thrown.size() || what < 0 || what > 5 ? NONE : now.thrown.get(k)[what];
    }

    boolean sand(int at) {
        if (!isCell(at) || now.sand[at]) return false;
        now.sand[at] = true;
        return true;
    }

    int aims(int q, int minute) {
        return isQuarter(q) && minute >= 0 && minute < 240 ? now.aim(now.quarters.get(q), minute) : NONE;
    }

    // ---- SURE DAYS

    int sure(int q) {
        return isQuarter(q) ? now.sureDay().quarters.get(q).marks : NO;
    }

    int with(int q, int near, int each) {
        World o = now.copy();
        Plan p = o.quarters.get(q).plan;
        o.quarters.get(q).plan = new Plan(near, each, p != null && p.feint);
        return o.sureDay().quarters.get(q).marks;
    }

    int grid(int q, int near, int each) {
        return isQuarter(q) && near >= 0 && near <= 18 && each >= 0 && each <= 99 ? with(q, near, each) : NO;
    }

    int best(int q) {
        if (!isQuarter(q)) return NONE;
        int answer = NONE;
        int most = Integer.MIN_VALUE;
        for (int each = 0; each <= 20; each++) {
            for (int near = 0; near <= 12; near++) {
                int marks = with(q, near, each);
                if (marks > most) {
                    most = marks;
                    answer = 100 * near + each;
                }
            }
        }
        return answer;
    }

    int stand(int q, int spots) {
        if (!isQuarter(q) || spots < 0 || spots >= 1 << now.quarters.size()) return NO;
        World o = now.copy();
        for (int i = 0; i < o.quarters.size(); i++) {
            Quarter r = o.quarters.get(i);
            if ((spots & 1 << i) == 0) continue;
            if (r.sx < 0) return NO;
            r.x = r.sx;
            r.y = r.sy;
        }
        return o.sureDay().quarters.get(q).marks;
    }

    int rests(int k) {
        int with = 0;
        for (int i = 0; i < now.quarters.size(); i++) if (now.quarters.get(i).sx >= 0) with |= 1 << i;
        if (Integer.bitCount(with) > 6) return NONE;
        List<Integer> list = new ArrayList<>();
        for (int spots = 0; spots < 512; spots++) {
            if ((spots & ~with) != 0) continue;
            boolean rest = true;
            for (int i = 0; i < 9 && rest; i++) {
                if ((with & 1 << i) != 0) rest = stand(i, spots ^ 1 << i) <= stand(i, spots);
            }
            if (rest) list.add(spots);
        }
        return k == NONE ? list.size() : get(list, k);
    }

    int join(int a, int b) {
        if (!isQuarter(a) || !isQuarter(b) || a == b || now.quarters.get(b).plan == null) return NO;
        World without = now.sureDay();
        World o = now.copy();
        o.quarters.get(a).plan = o.quarters.get(b).plan;
        World joined = o.sureDay();
        return joined.quarters.get(a).marks + joined.quarters.get(b).marks
            - without.quarters.get(a).marks - without.quarters.get(b).marks;
    }

    int table() {
        List<Integer> t = tape;
        tape = new ArrayList<>();
        if (now.quarters.size() < 2 || t.isEmpty() || t.size() > 12 || t.size() % 2 == 1) return NONE;
        for (int i = 0; i < t.size(); i += 2) if (t.get(i) > 18 || t.get(i + 1) > 99) return NONE;
        int n = t.size() / 2;
        table = new int[n][n][2];
        for (int i = 0; i < n; i++) {
            for (int j = 0; j < n; j++) {
                World o = now.copy();
                o.quarters.get(0).plan = new Plan(t.get(2 * i), t.get(2 * i + 1), false);
                o.quarters.get(1).plan = new Plan(t.get(2 * j), t.get(2 * j + 1), false);
                o = o.sureDay();
                table[i][j][0] = o.quarters.get(0).marks;
                table[i][j][1] = o.quarters.get(1).marks;
            }
        }
        return n;
    }

    int against(int i, int j, int what) {
        if (table == null || i < 0 || j < 0 || i >= table.length || j >= table.length || what < 0 || what > 1) return NO;
        return table[i][j][what];
    }

    int reply(int j) {
        if (table == null || j < 0 || j >= table.length) return NONE;
        int best = 0;
        for (int i = 1; i < table.length; i++) if (table[i][j][0] > table[best][j][0]) best = i;
        return best;
    }

    int who(int c, int hit) {
        if (c < 0 || c >= now.carts.size()) return NONE;
        int bits = 0;
        for (int i = 0; i < now.quarters.size(); i++) {
            Quarter q = now.quarters.get(i);
            Cart t = now.carts.get(c);
            if (q.boxes > 0 && !now.isBarred(q, t) && now.hit(q, t) == hit) bits |= 1 << i;
        }
        return bits;
    }

    int odds(int q, int n, int seed) {
        if (!isQuarter(q) || n < 1 || n > 60) return NONE;
        int count = 0;
        for (int i = 0; i < n; i++) {
            World o = now.copy();
            o.begin(seed + i);
            for (int m = 0; m < 240; m++) o.minute(false);
            if (o.quarters.get(q).marks > sure(q)) count++;
        }
        return count;
    }

    // ---- puzzles

    int days(int n) {
        List<Integer> t = tape;
        tape = new ArrayList<>();
        if (n < 0 || n > 9999 || t.size() < 4 || t.size() > 12) return NONE;
        int k = t.size() - 3;
        int best = NONE;
        for (int code = 0; code < (k + 1) * (k + 1) * (k + 1); code++) {
            int[] r = {code / (k + 1) / (k + 1), code / (k + 1) % (k + 1), code % (k + 1)};
            int boxes = 0;
            int worth = 0;
            for (int d = 0; d < 3; d++) {
                for (int b = 0; b < r[d]; b++) {
                    boxes += t.get(d);
                    worth += t.get(d) * t.get(3 + b);
                }
            }
            if (boxes <= n && worth > best) {
                best = worth;
                rows = r;
            }
        }
        return best;
    }

    int rows(int d) {
        return rows == null || d < 0 || d > 2 ? NONE : rows[d];
    }

    int look() {
        List<Integer> t = tape;
        tape = new ArrayList<>();
        if (t.isEmpty() || t.size() % 5 != 0 || t.size() > 60) return NONE;
        for (int i = 0; i < t.size(); i += 5) {
            if (t.get(i) > 20 || t.get(i + 1) > 1 || t.get(i + 2) > 8 || t.get(i + 3) > 1) return NONE;
        }
        held = new ArrayList<>();
        for (int a = 0; a < 10; a++) for (int b = 0; b < 10; b++) for (int j = 0; j < 10; j++) for (int h = 0; h < 10; h++) {
            boolean ok = true;
            for (int i = 0; i < t.size(); i += 5) {
                ok &= a * t.get(i) + 2 * b * t.get(i + 1) + j * t.get(i + 2) - h * t.get(i + 3) + 100 == t.get(i + 4);
            }
            if (ok) held.add(1000 * a + 100 * b + 10 * j + h);
        }
        return held.size();
    }

    int held(int k) {
        return k > 99 ? NONE : get(held, k);
    }

    private static int[] seen(int judges, int quarters, int rounds) {
        int[] seen = new int[quarters];
        for (int i = 0; i < judges * rounds; i++) seen[i % quarters]++;
        return seen;
    }

    int walk(int judges, int quarters) {
        if (judges < 1 || judges > 12 || quarters < 1 || quarters > 9) return NONE;
        for (int rounds = 1; ; rounds++) {
            boolean like = true;
            int[] seen = seen(judges, quarters, rounds);
            for (int s : seen) like &= s == seen[0];
            if (like) return rounds;
        }
    }

    int alike(int judges, int quarters, int round, int judge) {
        int rounds = walk(judges, quarters);
        if (rounds == NONE || round < 0 || round >= rounds || judge < 0 || judge >= judges) return NONE;
        int sees = 0;
        for (int i = 0; i < round * judges + judge; i++) sees = sees + 1 == quarters ? 0 : sees + 1;
        return sees;
    }

    int order() {
        int n = now.carts.size();
        if (n < 1 || n > 8) return NONE;
        int[] best = {100};
        tryOrders(new ArrayList<>(), n, best);
        return best[0];
    }

    private void tryOrders(List<Integer> row, int n, int[] best) {
        if (row.size() == n) {
            int wait = 0;
            for (Quarter q : now.quarters) wait = Math.max(wait, wait(q, row));
            if (wait < best[0]) {
                best[0] = wait;
                comes = new ArrayList<>(row);
            }
            return;
        }
        for (int c = 0; c < n; c++) {
            if (row.contains(c)) continue;
            row.add(c);
            tryOrders(row, n, best);
            row.remove(row.size() - 1);
        }
    }

    private int wait(Quarter q, List<Integer> row) {
        StringBuilder text = new StringBuilder();
        for (int c : row) text.append(far(q, now.carts.get(c)) <= 3 ? 'x' : '.');
        if (text.indexOf("x") < 0) return 0;
        int longest = 0;
        for (String gap : text.toString().split("x", -1)) longest = Math.max(longest, gap.length());
        return longest;
    }

    int comes(int i) {
        return get(comes, i);
    }

    int slippery() {
        List<Integer> wet = new ArrayList<>();
        for (Quarter q : now.quarters) {
            boolean served = now.pulp[10 * q.y + q.x] < 10;
            for (int at = 0; at < 100; at++) served |= now.sand[at] && steps(at % 10, at / 10, q.x, q.y) <= 1;
            if (!served) wet.add(10 * q.y + q.x);
        }
        for (int many = 0; ; many++) {
            List<Integer> row = new ArrayList<>();
            if (lay(row, wet, many, 0)) {
                dry = row;
                return many;
            }
        }
    }

    private boolean lay(List<Integer> row, List<Integer> wet, int many, int from) {
        if (many == 0) return wet.isEmpty();
        if (wet.size() > 5 * many) return false;
        for (int at = from; at < 100; at++) {
            if (!isCell(at)) continue;
            int x = at % 10;
            int y = at / 10;
            List<Integer> left = new ArrayList<>(wet);
            left.removeIf(w -> steps(w % 10, w / 10, x, y) <= 1);
            if (left.size() == wet.size()) continue;
            row.add(at);
            if (lay(row, left, many - 1, at + 1)) return true;
            row.remove(row.size() - 1);
        }
        return false;
    }

    int dry(int i) {
        return get(dry, i);
    }

    boolean image(int k) {
        if (k < 0 || k > 1) return false;
        kept[k] = now.copy();
        return true;
    }

    boolean restore(int k) {
        if (k < 0 || k > 1 || kept[k] == null) return false;
        now = kept[k].copy();
        return true;
    }

    int count(int what) {
        int[] row = {now.w, now.h, now.quarters.size(), now.carts.size(), now.caps.size(), now.drains.size(),
            now.judges.size(), now.plans, tape.size()};
        return what < 0 || what > 8 ? NONE : row[what];
    }
}
