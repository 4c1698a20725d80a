import java.util.Arrays;
import java.util.NoSuchElementException;

/**
 * Oranges for three days: quarters on foot against carts in a square, told as a text on a tape.
 * The document's words in capitals (TOWN, PLANS, SURE DAY, ..) are used in the comments as it uses them.
 */
public final class OrangeFight {
    public static final int NONE = -1;

    private static final int NO_MARKS = NONE - 10000;
    private static final int IMAGES = 2;

    private static final int MOST_QUARTERS = 9;
    private static final int MOST_CARTS = 20;
    private static final int MOST_OF_A_SORT = 12;
    private static final int CELLS = 100;
    private static final int SIDES = 5;
    private static final int DAY_MINUTES = 240;
    private static final int ALL_DAYS = 3;
    private static final int CART_STAYS = 4;
    private static final int MOST_VISITS = MOST_CARTS * CART_STAYS;

    private static final int MOST_NEAR = 18;
    private static final int MOST_EACH = 99;
    private static final int JUDGE_SEES = 4;
    private static final int CART_REACHES = 6;
    private static final int NEAR_THROW = 2;
    private static final int HURTING_HIT = 7;
    private static final int FEINT_GIVES = 2;
    private static final int SLIP_DRAW = 40;

    private static final int BARRED = 0;
    private static final int SLIPPED = 1;
    private static final int FEINTED = 2;
    private static final int NEAR = 3;
    private static final int FAR = 4;

    private static final int CAP = 0;
    private static final int DRAIN = 1;
    private static final int JUDGE = 2;
    private static final int QUARTER = 3;

    /** In the order of the KEY_ numbers below, a blank behind each. */
    private static final String KEYWORDS =
        "square quarter cart cap drain judge spot law feint or and not feints joins boxes marks wounds aim sees place ";
    private static final int KEY_SQUARE = 0;
    private static final int KEY_QUARTER = 1;
    private static final int KEY_CART = 2;
    private static final int KEY_CAP = 3;
    private static final int KEY_DRAIN = 4;
    private static final int KEY_JUDGE = 5;
    private static final int KEY_SPOT = 6;
    private static final int KEY_LAW = 7;
    private static final int KEY_FEINT = 8;
    private static final int KEY_OR = 9;
    private static final int KEY_AND = 10;
    private static final int KEY_NOT = 11;
    private static final int KEY_FEINTS = 12;
    private static final int KEY_JOINS = 13;
    private static final int KEY_BOXES = 14;
    private static final int KEY_MARKS = 15;
    private static final int KEY_WOUNDS = 16;
    private static final int KEY_AIM = 17;
    private static final int KEY_SEES = 18;
    private static final int KEY_PLACE = 19;
    private static final int KEYS = KEY_PLACE + 1;

    private final Tape tape = new Tape();
    private final Scene scene = new Scene();
    private final Scene[] kept = new Scene[IMAGES];
    private final boolean[] filled = new boolean[IMAGES];
    private final Town draftTown = new Town();
    private final Plans draftPlans = new Plans();
    private final Saying draftSaying = new Saying();
    private final Fight trial = new Fight(scene.town, scene.plans, scene.ground);
    private final SureDay surely = new SureDay(scene.town, scene.plans, scene.ground);
    private final TapePuzzles byTape = new TapePuzzles();
    private final TownPuzzles byTown = new TownPuzzles();
    private int faultKind;

    public OrangeFight() {
        for (int k = 0; k < IMAGES; k++) {
            kept[k] = new Scene();
        }
    }

    public int feed(int a, int b, int c, int d, int e) {
        if (!tape.hasRoom()) {
            return NONE;
        }
        tape.addNumber(a);
        tape.addNumber(b);
        tape.addNumber(c);
        tape.addNumber(d);
        tape.addNumber(e);
        return tape.size;
    }

    public boolean end(int n) {
        if (n < 0 || n > tape.size) {
            return false;
        }
        tape.size = n;
        return true;
    }

    public int town() {
        boolean well = draftTown.readFrom(tape);
        if (well) {
            scene.becomeTown(draftTown);
        }
        return closeText(well, draftTown.lines);
    }

    public int plans() {
        boolean well = draftPlans.readFrom(tape, scene.town);
        if (well) {
            scene.plans.takeFrom(draftPlans);
        }
        return closeText(well, draftPlans.told);
    }

    public int sentence() {
        boolean well = draftSaying.readFrom(tape, scene.town);
        if (well) {
            scene.saying.takeFrom(draftSaying);
        }
        return closeText(well, draftSaying.ones);
    }

    public int fault() {
        return faultKind;
    }

    public int quarter(int q, int what) throws NoSuchElementException {
        if (!isQuarter(q) || what < 0 || what > 9) {
            throw new NoSuchElementException();
        }
        return what < 6 ? quarterNow(q, what) : quarterTold(q, what);
    }

    public int cart(int c, int what) throws NoSuchElementException {
        if (!isCart(c) || what < 0 || what > 5) {
            throw new NoSuchElementException();
        }
        switch (what) {
            case 0: return scene.town.stop[c];
            case 1: return scene.town.minute[c];
            case 2: return scene.fight.loads[c];
            case 3: return scene.town.pads[c];
            case 4: return scene.fight.hits[c];
            default: return scene.ground.isThere(scene.town.minute[c], scene.fight.minute) ? 1 : 0;
        }
    }

    public int cell(int at, int what) throws NoSuchElementException {
        if (!scene.town.hasCell(at) || what < 0 || what > 5) {
            throw new NoSuchElementException();
        }
        switch (what) {
            case 0: return scene.fight.pulp[at];
            case 1: return scene.town.owner[at];
            case 2: return scene.town.hasOn(CAP, at) ? 1 : 0;
            case 3: return scene.town.hasOn(DRAIN, at) ? 1 : 0;
            case 4: return scene.town.hasOn(JUDGE, at) ? 1 : 0;
            default: return scene.fight.sanded[at];
        }
    }

    public void begin(int seed) {
        scene.fight.restart(seed);
    }

    public int on(int n) {
        return n < 1 || n > ALL_DAYS * DAY_MINUTES ? NONE : scene.fight.pass(n);
    }

    public int now(int what) {
        Fight fight = scene.fight;
        switch (what) {
            case 0: return fight.day;
            case 1: return fight.minute;
            case 2: return fight.boxesUsed;
            case 3: return fight.thrownBack;
            case 4: return fight.kinds[SLIPPED];
            case 5: return fight.kinds[BARRED];
            case 6: return fight.kinds[FEINTED];
            case 7: return fight.allPulp();
            default: return NONE;
        }
    }

    public int thrown(int k, int what) {
        if (k < 0 || k >= scene.fight.throwsNow || what < 0 || what >= Fight.TOLD) {
            return NONE;
        }
        return scene.fight.told[k * Fight.TOLD + what];
    }

    public boolean sand(int at) {
        if (!scene.town.hasCell(at) || scene.fight.sanded[at] != 0) {
            return false;
        }
        scene.fight.sanded[at] = 1;
        return true;
    }

    public int aims(int q, int minute) {
        return isQuarter(q) ? scene.fight.aimedAt(q, minute) : NONE;
    }

    public int sure(int q) {
        return isQuarter(q) ? surely.marksAsTold(q) : NO_MARKS;
    }

    public int grid(int q, int near, int each) {
        if (!isQuarter(q) || !isPlan(near, each)) {
            return NO_MARKS;
        }
        return surely.marksWith(q, near, each);
    }

    public int best(int q) {
        return isQuarter(q) ? surely.bestPlan(q) : NONE;
    }

    public int days(int n) {
        int worth = byTape.spreadBoxes(tape, n);
        tape.size = 0;
        return worth;
    }

    public int rows(int d) {
        return d < 0 || d >= ALL_DAYS ? NONE : byTape.spread[d];
    }

    public int stand(int q, int spots) {
        return isQuarter(q) && surely.haveSpots(spots) ? surely.marksStanding(q, spots) : NO_MARKS;
    }

    public int rests(int k) {
        return surely.restingSpots(k);
    }

    public int join(int a, int b) {
        if (!isQuarter(a) || !isQuarter(b) || a == b || !scene.plans.hasPlan(b)) {
            return NO_MARKS;
        }
        return surely.gainByJoining(a, b);
    }

    public int look() {
        int laws = byTape.findLaws(tape);
        tape.size = 0;
        return laws;
    }

    public int held(int k) {
        return byTape.lawAt(k);
    }

    public int walk(int judges, int quarters) {
        return byTape.rounds(judges, quarters);
    }

    public int alike(int judges, int quarters, int round, int judge) {
        if (round < 0 || round >= byTape.rounds(judges, quarters) || judge < 0 || judge >= judges || quarters < 1) {
            return NONE;
        }
        return (round * judges + judge) % quarters;
    }

    public int order() {
        return byTown.findOrder(scene.town, scene.ground);
    }

    public int comes(int i) {
        return i < 0 || i >= byTown.ordered ? NONE : byTown.order[i];
    }

    public int slippery() {
        return byTown.findSand(scene.town, scene.fight);
    }

    public int dry(int i) {
        return byTown.sandAt(i);
    }

    public int table() {
        int tried = surely.tryAll(tape);
        tape.size = 0;
        return tried;
    }

    public int against(int i, int j, int what) {
        return what == 0 || what == 1 ? surely.metMarks(i, j, what) : NO_MARKS;
    }

    public int reply(int j) {
        return surely.bestReply(j);
    }

    public int who(int c, int hit) {
        return isCart(c) ? scene.fight.throwersOf(c, hit) : NONE;
    }

    public int odds(int q, int n, int seed) {
        if (!isQuarter(q) || n < 1 || n > 60) {
            return NONE;
        }
        int sureMarks = surely.marksAsTold(q);
        int more = 0;
        trial.takeSand(scene.fight);
        for (int i = 0; i < n; i++) {
            trial.restart(seed + i);
            trial.pass(DAY_MINUTES);
            if (trial.marks[q] > sureMarks) {
                more++;
            }
        }
        return more;
    }

    public int said(int k) {
        if (k < NONE || !scene.saying.isTold()) {
            return NONE;
        }
        int found = 0;
        for (int q = 0; q < scene.town.quarters; q++) {
            if (scene.saying.holds(q, scene.fight)) {
                if (found == k) {
                    return q;
                }
                found++;
            }
        }
        return k == NONE ? found : NONE;
    }

    public boolean image(int k) {
        if (k < 0 || k >= IMAGES) {
            return false;
        }
        kept[k].takeFrom(scene);
        filled[k] = true;
        return true;
    }

    public boolean restore(int k) {
        if (k < 0 || k >= IMAGES || !filled[k]) {
            return false;
        }
        scene.takeFrom(kept[k]);
        return true;
    }

    public int count(int what) {
        Town town = scene.town;
        switch (what) {
            case 0: return town.width;
            case 1: return town.height;
            case 2: return town.quarters;
            case 3: return town.carts;
            case 4: return town.placed[CAP];
            case 5: return town.placed[DRAIN];
            case 6: return town.placed[JUDGE];
            case 7: return scene.plans.told;
            case 8: return tape.size;
            default: return NONE;
        }
    }

    private boolean isQuarter(int q) {
        return q >= 0 && q < scene.town.quarters;
    }

    private boolean isCart(int c) {
        return c >= 0 && c < scene.town.carts;
    }

    private static boolean isPlan(int near, int each) {
        return near >= 0 && near <= MOST_NEAR && each >= 0 && each <= MOST_EACH;
    }

    private int closeText(boolean well, int told) {
        faultKind = well ? 0 : tape.faultKind;
        tape.size = 0;
        return well ? told : -1 - tape.faultPlace;
    }

    private int quarterNow(int q, int what) {
        switch (what) {
            case 0: return scene.town.home[q];
            case 1: return scene.town.aim[q];
            case 2: return scene.fight.boxes[q];
            case 3: return scene.fight.marks[q];
            case 4: return scene.fight.wounds[q];
            default: return scene.fight.more[q];
        }
    }

    private int quarterTold(int q, int what) {
        switch (what) {
            case 6: return scene.plans.near[q];
            case 7: return scene.plans.each[q];
            case 8: return scene.plans.feint[q];
            default: return scene.town.spot[q];
        }
    }

    /** The bytes that were fed, and a cursor that reads them as TOKENS and remembers the first FAULT. */
    private static final class Tape {
        static final int MOST = 940;
        static final int A_FEED = 20;
        static final int WORD = 1;
        static final int NUMBER = 2;
        static final int SIGN = 3;
        static final int END = 4;
        static final int NO_TOKEN = 5;
        static final int MOST_LETTERS = 7;
        static final int MOST_DIGITS = 3;
        /** A WORD is kept as a number, a letter a digit of it. */
        static final int LETTERS = 27;

        final int[] bytes = new int[MOST];
        int size;
        final long[] keywords = new long[KEYS];

        int limit;
        int next;
        int start;
        int kind;
        int number;
        long word;
        int key;
        int sign;
        int faultKind;
        int faultPlace;

        Tape() {
            int k = 0;
            long code = 0;
            for (int i = 0; i < KEYWORDS.length(); i++) {
                char letter = KEYWORDS.charAt(i);
                if (letter != ' ') {
                    code = code * LETTERS + (letter - 'a' + 1);
                } else if (k < KEYS) {
                    keywords[k] = code;
                    k++;
                    code = 0;
                }
            }
        }

        boolean hasRoom() {
            return size <= MOST - A_FEED;
        }

        void addNumber(int fed) {
            for (int shift = 24; shift >= 0 && size < MOST; shift -= 8) {
                bytes[size] = fed >>> shift & 255;
                size++;
            }
        }

        void open(int most) {
            limit = most;
            next = 0;
            faultKind = 0;
            faultPlace = 0;
            step();
        }

        void step() {
            while (next < size && isBlank(bytes[next])) {
                next++;
            }
            start = next;
            key = NONE;
            if (size > limit && start >= limit) {
                start = limit;
                kind = NO_TOKEN;
            } else if (start >= size) {
                kind = END;
            } else {
                readRun();
                if (next == start) {
                    sign = bytes[start];
                    kind = isSign(sign) ? SIGN : NO_TOKEN;
                    next++;
                } else if (kind == WORD) {
                    key = keyOf(word);
                }
            }
        }

        /** Small letters and digits as far as they go: a WORD, a NUMBER or neither. */
        private void readRun() {
            int letters = 0;
            int digits = 0;
            word = 0;
            number = 0;
            for (; next < size; next++) {
                int b = bytes[next];
                if (b >= '0' && b <= '9') {
                    digits++;
                    number = digits > MOST_DIGITS ? number : number * 10 + (b - '0');
                } else if (b >= 'a' && b <= 'z') {
                    letters++;
                    word = letters > MOST_LETTERS ? word : word * LETTERS + (b - 'a' + 1);
                } else {
                    break;
                }
            }
            if (digits == 0 && letters <= MOST_LETTERS) {
                kind = WORD;
            } else {
                kind = letters == 0 && digits <= MOST_DIGITS ? NUMBER : NO_TOKEN;
            }
        }

        private int keyOf(long code) {
            for (int k = 0; k < KEYS; k++) {
                if (keywords[k] == code) {
                    return k;
                }
            }
            return NONE;
        }

        private static boolean isBlank(int b) {
            return b == 32 || b == 10;
        }

        private static boolean isSign(int b) {
            return b == ';' || b == '<' || b == '=' || b == '>' || b == '(' || b == ')';
        }

        boolean fail(int fault) {
            faultKind = fault;
            faultPlace = start;
            return false;
        }

        boolean atName() {
            return kind == WORD && key == NONE;
        }

        boolean atKey(int wanted) {
            return kind == WORD && key == wanted;
        }

        boolean atSign(int wanted) {
            return kind == SIGN && sign == wanted;
        }

        boolean passSign(int wanted) {
            if (!atSign(wanted)) {
                return fail(1);
            }
            step();
            return true;
        }

        /** Stays at the NUMBER, since more may be wrong with it than its range. */
        boolean seeNumber(int least, int most) {
            if (kind != NUMBER) {
                return fail(1);
            }
            return number >= least && number <= most || fail(2);
        }

        /** Writes the NUMBER into a row and goes on behind it. */
        boolean passNumber(int least, int most, int[] row, int at) {
            if (!seeNumber(least, most)) {
                return false;
            }
            if (at >= 0 && at < row.length) {
                row[at] = number;
            }
            step();
            return true;
        }
    }

    /** A TOWN as it was told. */
    private static final class Town {
        static final int MOST_BYTES = 900;
        static final int MOST_BOXES = 400;

        int lines;
        int width;
        int height;
        int quarters;
        int carts;
        final long[] name = new long[MOST_QUARTERS];
        final int[] home = new int[MOST_QUARTERS];
        final int[] boxes = new int[MOST_QUARTERS];
        final int[] aim = new int[MOST_QUARTERS];
        final int[] spot = new int[MOST_QUARTERS];
        final int[] minute = new int[MOST_CARTS];
        final int[] stop = new int[MOST_CARTS];
        final int[] load = new int[MOST_CARTS];
        final int[] pads = new int[MOST_CARTS];
        /** How many caps, drains, judges and QUARTERS; a bit of each on its CELL. */
        final int[] placed = new int[4];
        final int[] things = new int[CELLS];
        final int[] owner = new int[CELLS];
        /** AIM, BOLD, JOIN, HURT. */
        final int[] law = new int[4];
        boolean lawTold;
        private int cellRead;

        Town() {
            empty();
        }

        private void empty() {
            lines = 0;
            width = 0;
            height = 0;
            quarters = 0;
            carts = 0;
            lawTold = false;
            Arrays.fill(spot, NONE);
            Arrays.fill(placed, 0);
            Arrays.fill(things, 0);
            Arrays.fill(owner, NONE);
            Arrays.fill(law, 1);
            law[3] = 0;
        }

        /** All but what reading alone needs. */
        void takeFrom(Town other) {
            width = other.width;
            height = other.height;
            quarters = other.quarters;
            carts = other.carts;
            System.arraycopy(other.name, 0, name, 0, MOST_QUARTERS);
            copyRow(other.home, home);
            copyRow(other.boxes, boxes);
            copyRow(other.aim, aim);
            copyRow(other.spot, spot);
            copyRow(other.minute, minute);
            copyRow(other.stop, stop);
            copyRow(other.load, load);
            copyRow(other.pads, pads);
            copyRow(other.placed, placed);
            copyRow(other.things, things);
            copyRow(other.owner, owner);
            copyRow(other.law, law);
        }

        boolean hasCell(int at) {
            return at >= 0 && at < CELLS && at % 10 < width && at / 10 < height;
        }

        boolean hasOn(int sort, int at) {
            return at >= 0 && at < CELLS && (things[at] >> sort & 1) != 0;
        }

        /** The CELL itself (side 0) or a neighbour (1 to 4); NONE outside the square. */
        int sideOf(int at, int side) {
            int x = at % 10 + (side == 1 ? 1 : side == 2 ? -1 : 0);
            int y = at / 10 + (side == 3 ? 1 : side == 4 ? -1 : 0);
            return x >= 0 && x < width && y >= 0 && y < height ? 10 * y + x : NONE;
        }

        static int distance(int a, int b) {
            return Math.abs(a % 10 - b % 10) + Math.abs(a / 10 - b / 10);
        }

        int quarterNamed(long word) {
            for (int q = 0; q < quarters; q++) {
                if (name[q] == word) {
                    return q;
                }
            }
            return NONE;
        }

        int hitOf(int q, int c, int far, int more) {
            int force = aim[q] + more + (far <= NEAR_THROW ? 2 : -far) - pads[c];
            return Math.max(force, 0);
        }

        /** What one judge marks. */
        int marksFor(int hit, boolean near, int joined) {
            int bold = near ? law[1] * 2 : 0;
            int hurt = hit >= HURTING_HIT ? law[3] : 0;
            return law[0] * hit + bold + law[2] * joined - hurt;
        }

        boolean readFrom(Tape tape) {
            empty();
            tape.open(MOST_BYTES);
            for (int i = 0; i < MOST_BYTES && tape.kind != Tape.END; i++) {
                if (!readLine(tape) || !tape.passSign(';')) {
                    return false;
                }
                lines++;
            }
            return true;
        }

        private boolean readLine(Tape tape) {
            if (tape.kind != Tape.WORD) {
                return tape.fail(1);
            }
            switch (tape.key) {
                case KEY_SQUARE: return readSquare(tape);
                case KEY_QUARTER: return readQuarter(tape);
                case KEY_CART: return readCart(tape);
                case KEY_CAP: return readThing(tape, CAP);
                case KEY_DRAIN: return readThing(tape, DRAIN);
                case KEY_JUDGE: return readThing(tape, JUDGE);
                case KEY_SPOT: return readSpot(tape);
                case KEY_LAW: return readLaw(tape);
                default: return tape.fail(1);
            }
        }

        private boolean readSquare(Tape tape) {
            if (width > 0) {
                return tape.fail(3);
            }
            tape.step();
            if (!tape.seeNumber(2, 10)) {
                return false;
            }
            width = tape.number;
            tape.step();
            if (!tape.seeNumber(2, 10)) {
                return false;
            }
            height = tape.number;
            tape.step();
            return true;
        }

        private boolean readQuarter(Tape tape) {
            if (quarters >= MOST_QUARTERS) {
                return tape.fail(4);
            }
            tape.step();
            if (!tape.atName()) {
                return tape.fail(1);
            }
            if (quarterNamed(tape.word) != NONE) {
                return tape.fail(3);
            }
            name[quarters] = tape.word;
            tape.step();
            if (!readCell(tape, QUARTER)) {
                return false;
            }
            home[quarters] = cellRead;
            if (!tape.passNumber(0, MOST_BOXES, boxes, quarters) || !tape.passNumber(1, 9, aim, quarters)) {
                return false;
            }
            putOn(QUARTER, cellRead);
            owner[cellRead] = quarters;
            quarters++;
            return true;
        }

        private boolean readCart(Tape tape) {
            if (carts >= MOST_CARTS) {
                return tape.fail(4);
            }
            tape.step();
            if (!tape.passNumber(0, DAY_MINUTES - 1, minute, carts) || !readCell(tape, NONE)) {
                return false;
            }
            stop[carts] = cellRead;
            if (!tape.passNumber(0, MOST_BOXES, load, carts) || !tape.passNumber(0, 9, pads, carts)) {
                return false;
            }
            carts++;
            return true;
        }

        private boolean readThing(Tape tape, int sort) {
            if (placed[sort] >= MOST_OF_A_SORT) {
                return tape.fail(4);
            }
            tape.step();
            if (!readCell(tape, sort)) {
                return false;
            }
            putOn(sort, cellRead);
            return true;
        }

        private boolean readSpot(Tape tape) {
            tape.step();
            if (!tape.atName()) {
                return tape.fail(1);
            }
            int q = quarterNamed(tape.word);
            if (q == NONE || spot[q] != NONE) {
                return tape.fail(3);
            }
            tape.step();
            if (!readCell(tape, NONE)) {
                return false;
            }
            spot[q] = cellRead;
            return true;
        }

        private boolean readLaw(Tape tape) {
            if (lawTold) {
                return tape.fail(3);
            }
            tape.step();
            lawTold = true;
            for (int i = 0; i < law.length; i++) {
                if (!tape.passNumber(0, 9, law, i)) {
                    return false;
                }
            }
            return true;
        }

        /** X and Y; a sort that may be but once on a CELL is looked for at Y (NONE: any CELL will do). */
        private boolean readCell(Tape tape, int sort) {
            if (!tape.seeNumber(0, width - 1)) {
                return false;
            }
            int x = tape.number;
            tape.step();
            if (!tape.seeNumber(0, height - 1)) {
                return false;
            }
            cellRead = 10 * tape.number + x;
            if (sort != NONE && hasOn(sort, cellRead)) {
                return tape.fail(3);
            }
            tape.step();
            return true;
        }

        private void putOn(int sort, int at) {
            things[at] |= 1 << sort;
            placed[sort]++;
        }
    }

    private static void copyRow(int[] from, int[] to) {
        System.arraycopy(from, 0, to, 0, Math.min(from.length, to.length));
    }

    /** PLANS: of each QUARTER its own; NONE in all three rows without one. */
    private static final class Plans {
        static final int MOST_BYTES = 400;

        int told;
        final int[] near = new int[MOST_QUARTERS];
        final int[] each = new int[MOST_QUARTERS];
        final int[] feint = new int[MOST_QUARTERS];

        Plans() {
            empty();
        }

        private void empty() {
            told = 0;
            Arrays.fill(near, NONE);
            Arrays.fill(each, NONE);
            Arrays.fill(feint, NONE);
        }

        void forget() {
            empty();
        }

        void takeFrom(Plans other) {
            told = other.told;
            copyRow(other.near, near);
            copyRow(other.each, each);
            copyRow(other.feint, feint);
        }

        boolean hasPlan(int q) {
            return q >= 0 && q < MOST_QUARTERS && near[q] != NONE;
        }

        boolean readFrom(Tape tape, Town town) {
            empty();
            tape.open(MOST_BYTES);
            for (int i = 0; i < MOST_BYTES && tape.kind != Tape.END; i++) {
                if (!readPlan(tape, town) || !tape.passSign(';')) {
                    return false;
                }
                told++;
            }
            return true;
        }

        private boolean readPlan(Tape tape, Town town) {
            if (!tape.atName()) {
                return tape.fail(1);
            }
            int q = town.quarterNamed(tape.word);
            if (q == NONE || hasPlan(q)) {
                return tape.fail(3);
            }
            tape.step();
            if (!tape.passNumber(0, MOST_NEAR, near, q) || !tape.passNumber(0, MOST_EACH, each, q)) {
                return false;
            }
            feint[q] = tape.atKey(KEY_FEINT) ? 1 : 0;
            if (feint[q] == 1) {
                tape.step();
            }
            return true;
        }
    }

    /** A SENTENCE, as steps that work on a pile of truths: a leaf lays one on it, not, and, or work on its top. */
    private static final class Saying {
        static final int MOST_BYTES = 200;
        static final int MOST_ONES = 20;
        static final int MOST_DEPTH = 8;
        static final int MOST_STEPS = 2 * MOST_ONES;

        int ones;
        int steps;
        final int[] op = new int[MOST_STEPS];
        final int[] sign = new int[MOST_STEPS];
        final int[] number = new int[MOST_STEPS];
        final boolean[] pile = new boolean[MOST_ONES];

        void forget() {
            ones = 0;
            steps = 0;
        }

        void takeFrom(Saying other) {
            ones = other.ones;
            steps = other.steps;
            copyRow(other.op, op);
            copyRow(other.sign, sign);
            copyRow(other.number, number);
        }

        boolean isTold() {
            return steps > 0;
        }

        boolean readFrom(Tape tape, Town town) {
            forget();
            tape.open(MOST_BYTES);
            if (!readCond(tape, town, 1)) {
                return false;
            }
            return tape.kind == Tape.END || tape.fail(1);
        }

        private boolean readCond(Tape tape, Town town, int depth) {
            if (!readAll(tape, town, depth)) {
                return false;
            }
            for (int i = 0; i < MOST_ONES && tape.atKey(KEY_OR); i++) {
                tape.step();
                if (!readAll(tape, town, depth)) {
                    return false;
                }
                addStep(KEY_OR, 0, 0);
            }
            return true;
        }

        private boolean readAll(Tape tape, Town town, int depth) {
            if (!readOne(tape, town, depth)) {
                return false;
            }
            for (int i = 0; i < MOST_ONES && tape.atKey(KEY_AND); i++) {
                tape.step();
                if (!readOne(tape, town, depth)) {
                    return false;
                }
                addStep(KEY_AND, 0, 0);
            }
            return true;
        }

        private boolean readOne(Tape tape, Town town, int depth) {
            boolean bracket = tape.atSign('(');
            if (!bracket && (tape.kind != Tape.WORD || tape.key < KEY_NOT)) {
                return tape.fail(1);
            }
            if (ones >= MOST_ONES || depth > MOST_DEPTH) {
                return tape.fail(4);
            }
            ones++;
            int key = tape.key;
            tape.step();
            if (bracket) {
                return readCond(tape, town, depth + 1) && tape.passSign(')');
            }
            if (key == KEY_NOT) {
                return readOne(tape, town, depth + 1) && addStep(KEY_NOT, 0, 0);
            }
            if (key == KEY_FEINTS) {
                return addStep(KEY_FEINTS, 0, 0);
            }
            return key == KEY_JOINS ? readJoins(tape, town) : readMeasure(tape, key);
        }

        private boolean readJoins(Tape tape, Town town) {
            if (!tape.atName()) {
                return tape.fail(1);
            }
            int q = town.quarterNamed(tape.word);
            if (q == NONE) {
                return tape.fail(3);
            }
            tape.step();
            return addStep(KEY_JOINS, 0, q);
        }

        private boolean readMeasure(Tape tape, int key) {
            if (!tape.atSign('<') && !tape.atSign('=') && !tape.atSign('>')) {
                return tape.fail(1);
            }
            int compared = tape.sign;
            tape.step();
            if (tape.kind != Tape.NUMBER) {
                return tape.fail(1);
            }
            addStep(key, compared, tape.number);
            tape.step();
            return true;
        }

        private boolean addStep(int key, int compared, int with) {
            if (steps < MOST_STEPS) {
                op[steps] = key;
                sign[steps] = compared;
                number[steps] = with;
                steps++;
            }
            return true;
        }

        boolean holds(int q, Fight fight) {
            int top = 0;
            for (int i = 0; i < steps; i++) {
                if (op[i] == KEY_NOT) {
                    if (top > 0) {
                        pile[top - 1] = !pile[top - 1];
                    }
                } else if (op[i] == KEY_AND || op[i] == KEY_OR) {
                    if (top > 1) {
                        top--;
                        pile[top - 1] = op[i] == KEY_AND ? pile[top - 1] && pile[top] : pile[top - 1] || pile[top];
                    }
                } else if (top < MOST_ONES) {
                    pile[top] = holdsLeaf(i, q, fight);
                    top++;
                }
            }
            return top > 0 && pile[0];
        }

        private boolean holdsLeaf(int i, int q, Fight fight) {
            if (op[i] == KEY_FEINTS) {
                return fight.plans.feint[q] == 1;
            }
            if (op[i] == KEY_JOINS) {
                return fight.wouldJoin(q, number[i]);
            }
            int have = fight.measure(q, op[i]);
            return sign[i] == '<' ? have < number[i] : sign[i] == '>' ? have > number[i] : have == number[i];
        }
    }

    /**
     * What follows from a TOWN alone. A VISIT is a CART in one MINUTE in which it is there; a BUSY MINUTE has one.
     * A PLACE is where a QUARTER may stand: its CELL (its number) or its spot (its number and 9).
     */
    private static final class Ground {
        static final int PLACES = 2 * MOST_QUARTERS;

        final int[] apart = new int[PLACES * MOST_CARTS];
        final int[] sees = new int[PLACES];
        final boolean[] capped = new boolean[MOST_CARTS];
        /** The QUARTER that a CART throws at. */
        final int[] prey = new int[MOST_CARTS];
        int drained;
        final int[] drainedCell = new int[SIDES * MOST_OF_A_SORT];
        /** How many drains take from a CELL. */
        final int[] drains = new int[CELLS];
        int busy;
        final int[] busyAt = new int[DAY_MINUTES];
        final int[] minuteOf = new int[MOST_VISITS];
        /** The VISITS of a BUSY MINUTE i: from firstVisit[i], below firstVisit[i + 1]. */
        final int[] firstVisit = new int[MOST_VISITS + 1];
        final int[] cartOf = new int[MOST_VISITS];

        Ground() {
            Arrays.fill(busyAt, NONE);
        }

        void derive(Town town) {
            for (int q = 0; q < town.quarters; q++) {
                measureFrom(town, q, town.home[q]);
                measureFrom(town, MOST_QUARTERS + q, town.spot[q] == NONE ? town.home[q] : town.spot[q]);
            }
            for (int c = 0; c < town.carts; c++) {
                capped[c] = nearCap(town, town.stop[c]);
                prey[c] = preyOf(town, c);
            }
            deriveDrains(town);
            deriveVisits(town);
        }

        private void measureFrom(Town town, int place, int at) {
            for (int c = 0; c < town.carts; c++) {
                apart[place * MOST_CARTS + c] = Town.distance(at, town.stop[c]);
            }
            sees[place] = 0;
            for (int cell = 0; cell < CELLS; cell++) {
                if (town.hasOn(JUDGE, cell) && Town.distance(at, cell) <= JUDGE_SEES) {
                    sees[place]++;
                }
            }
        }

        private static boolean nearCap(Town town, int at) {
            for (int side = 0; side < SIDES; side++) {
                if (town.hasOn(CAP, town.sideOf(at, side))) {
                    return true;
                }
            }
            return false;
        }

        private int preyOf(Town town, int c) {
            int found = NONE;
            int least = CART_REACHES + 1;
            for (int q = 0; q < town.quarters; q++) {
                if (apart[q * MOST_CARTS + c] < least) {
                    least = apart[q * MOST_CARTS + c];
                    found = q;
                }
            }
            return found;
        }

        private void deriveDrains(Town town) {
            drained = 0;
            for (int at = 0; at < CELLS; at++) {
                drains[at] = 0;
                for (int side = 0; side < SIDES; side++) {
                    if (town.hasCell(at) && town.hasOn(DRAIN, town.sideOf(at, side))) {
                        drains[at]++;
                    }
                }
                if (drains[at] > 0 && drained < drainedCell.length) {
                    drainedCell[drained] = at;
                    drained++;
                }
            }
        }

        private void deriveVisits(Town town) {
            int visits = 0;
            busy = 0;
            for (int minute = 0; minute < DAY_MINUTES; minute++) {
                int before = visits;
                for (int c = 0; c < town.carts; c++) {
                    if (isThere(town.minute[c], minute) && visits < MOST_VISITS) {
                        cartOf[visits] = c;
                        visits++;
                    }
                }
                busyAt[minute] = NONE;
                if (visits > before && busy < MOST_VISITS) {
                    busyAt[minute] = busy;
                    minuteOf[busy] = minute;
                    firstVisit[busy] = before;
                    busy++;
                    firstVisit[busy] = visits;
                }
            }
        }

        boolean isThere(int comes, int minute) {
            return comes <= minute && minute < comes + CART_STAYS && minute < DAY_MINUTES;
        }

        boolean bars(int c, int far) {
            return capped[c] && far > NEAR_THROW;
        }

        /** The VISIT of a BUSY MINUTE that is AIMED at from a PLACE; what was used for CART c stands at from + c. */
        int nearestVisit(int place, int busyMinute, int near, int each, int[] used, int from) {
            int found = NONE;
            int least = near + 1;
            for (int v = firstVisit[busyMinute]; v < firstVisit[busyMinute + 1]; v++) {
                int c = cartOf[v];
                if (apart[place * MOST_CARTS + c] < least && used[from + c] < each) {
                    least = apart[place * MOST_CARTS + c];
                    found = v;
                }
            }
            return found;
        }

        /** How many MINUTES in a row, so many at most, no CART is there. */
        int idleFrom(int minute, int most) {
            int idle = 0;
            while (idle < most && minute + idle < DAY_MINUTES && busyAt[minute + idle] == NONE) {
                idle++;
            }
            return idle;
        }
    }

    /** The three DAYS as they are now. */
    private static final class Fight {
        static final int TOLD = 6;

        final Town town;
        final Plans plans;
        final Ground ground;
        int day;
        int minute;
        int seed;
        int boxesUsed;
        int thrownBack;
        final int[] kinds = new int[FAR + 1];
        final int[] boxes = new int[MOST_QUARTERS];
        final int[] marks = new int[MOST_QUARTERS];
        final int[] wounds = new int[MOST_QUARTERS];
        final int[] more = new int[MOST_QUARTERS];
        final int[] used = new int[MOST_QUARTERS * MOST_CARTS];
        final int[] loads = new int[MOST_CARTS];
        final int[] hits = new int[MOST_CARTS];
        final int[] pulp = new int[CELLS];
        final int[] sanded = new int[CELLS];
        int throwsNow;
        /** Of each throw of the latest MINUTE: QUARTER, CART, kind, HIT, JOINED, marks. */
        final int[] told = new int[MOST_QUARTERS * TOLD];

        Fight(Town town, Plans plans, Ground ground) {
            this.town = town;
            this.plans = plans;
            this.ground = ground;
        }

        void takeFrom(Fight other) {
            day = other.day;
            minute = other.minute;
            seed = other.seed;
            boxesUsed = other.boxesUsed;
            thrownBack = other.thrownBack;
            throwsNow = other.throwsNow;
            copyRow(other.kinds, kinds);
            copyRow(other.boxes, boxes);
            copyRow(other.marks, marks);
            copyRow(other.wounds, wounds);
            copyRow(other.more, more);
            copyRow(other.used, used);
            copyRow(other.loads, loads);
            copyRow(other.hits, hits);
            copyRow(other.pulp, pulp);
            copyRow(other.told, told);
            takeSand(other);
        }

        void takeSand(Fight other) {
            copyRow(other.sanded, sanded);
        }

        void clearSand() {
            Arrays.fill(sanded, 0);
        }

        void restart(int newSeed) {
            day = 0;
            seed = newSeed;
            boxesUsed = 0;
            thrownBack = 0;
            throwsNow = 0;
            Arrays.fill(kinds, 0);
            Arrays.fill(marks, 0);
            Arrays.fill(wounds, 0);
            Arrays.fill(more, 0);
            Arrays.fill(hits, 0);
            copyRow(town.boxes, boxes);
            startDay();
        }

        private void startDay() {
            minute = 0;
            Arrays.fill(used, 0);
            Arrays.fill(pulp, 0);
            copyRow(town.load, loads);
        }

        int pass(int most) {
            int gone = 0;
            while (gone < most && day < ALL_DAYS) {
                // Where no CART is there only drains work, so that such MINUTES go by at once.
                int idle = ground.idleFrom(minute, most - gone);
                throwsNow = 0;
                if (idle == 0) {
                    playMinute(ground.busyAt[minute]);
                }
                int steps = Math.max(idle, 1);
                drainFor(steps);
                gone += steps;
                minute += steps;
                if (minute >= DAY_MINUTES) {
                    endDay();
                }
            }
            return gone;
        }

        private void endDay() {
            day++;
            if (day < ALL_DAYS) {
                startDay();
            }
        }

        private void drainFor(int minutes) {
            for (int i = 0; i < ground.drained; i++) {
                int at = ground.drainedCell[i];
                pulp[at] = Math.max(0, pulp[at] - minutes * ground.drains[at]);
            }
        }

        private void playMinute(int busyMinute) {
            for (int q = 0; q < town.quarters; q++) {
                int visit = aimedVisit(q, busyMinute);
                if (visit != NONE) {
                    throwAt(q, ground.cartOf[visit]);
                }
            }
            for (int k = 0; k < throwsNow; k++) {
                markThrow(k);
            }
            for (int v = ground.firstVisit[busyMinute]; v < ground.firstVisit[busyMinute + 1]; v++) {
                throwBack(ground.cartOf[v]);
            }
        }

        private int aimedVisit(int q, int busyMinute) {
            if (!plans.hasPlan(q) || boxes[q] <= 0) {
                return NONE;
            }
            return ground.nearestVisit(q, busyMinute, plans.near[q], plans.each[q], used, q * MOST_CARTS);
        }

        int aimedAt(int q, int when) {
            if (when < 0 || when >= DAY_MINUTES || ground.busyAt[when] == NONE) {
                return NONE;
            }
            int visit = aimedVisit(q, ground.busyAt[when]);
            return visit == NONE ? NONE : ground.cartOf[visit];
        }

        boolean wouldJoin(int q, int other) {
            int c = aimedAt(q, minute);
            return q != other && c != NONE && c == aimedAt(other, minute);
        }

        private void throwAt(int q, int c) {
            int far = ground.apart[q * MOST_CARTS + c];
            int kind = kindOf(q, c, far);
            int hit = 0;
            if (kind == FEINTED) {
                more[q] = FEINT_GIVES;
            } else if (kind == SLIPPED) {
                useBox(q, c, town.home[q]);
            } else if (kind != BARRED) {
                hit = town.hitOf(q, c, far, more[q]);
                more[q] = 0;
                hits[c] += hit;
                useBox(q, c, town.stop[c]);
            }
            kinds[kind]++;
            tellThrow(q, c, kind, hit);
        }

        private int kindOf(int q, int c, int far) {
            if (ground.bars(c, far)) {
                return BARRED;
            }
            int at = town.home[q];
            if (sanded[at] == 0 && draw(SLIP_DRAW) < pulp[at]) {
                return SLIPPED;
            }
            if (plans.feint[q] == 1 && minute % 2 == 1) {
                return FEINTED;
            }
            return far <= NEAR_THROW ? NEAR : FAR;
        }

        private int draw(int of) {
            seed = seed * 1103515245 + 12345;
            return of > 0 ? (seed >>> 8) % of : 0;
        }

        private void useBox(int q, int c, int at) {
            boxes[q]--;
            used[q * MOST_CARTS + c]++;
            pulp[at]++;
            boxesUsed++;
        }

        private void tellThrow(int q, int c, int kind, int hit) {
            int at = throwsNow * TOLD;
            told[at] = q;
            told[at + 1] = c;
            told[at + 2] = kind;
            told[at + 3] = hit;
            told[at + 4] = 0;
            told[at + 5] = 0;
            throwsNow++;
        }

        private boolean isHitOn(int k, int c) {
            return told[k * TOLD + 1] == c && told[k * TOLD + 2] >= NEAR;
        }

        private void markThrow(int k) {
            int at = k * TOLD;
            int c = told[at + 1];
            if (!isHitOn(k, c)) {
                return;
            }
            int joined = 0;
            for (int other = 0; other < throwsNow; other++) {
                if (other != k && isHitOn(other, c)) {
                    joined++;
                }
            }
            int q = told[at];
            told[at + 4] = joined;
            told[at + 5] = ground.sees[q] * town.marksFor(told[at + 3], told[at + 2] == NEAR, joined);
            marks[q] += told[at + 5];
        }

        private void throwBack(int c) {
            int q = ground.prey[c];
            if (loads[c] <= 0 || q == NONE) {
                return;
            }
            loads[c]--;
            thrownBack++;
            pulp[town.home[q]] += 2;
            wounds[q] += 3 - ground.apart[q * MOST_CARTS + c] / 2;
        }

        int allPulp() {
            int all = 0;
            for (int at = 0; at < CELLS; at++) {
                all += pulp[at];
            }
            return all;
        }

        int throwersOf(int c, int hit) {
            int bits = 0;
            for (int q = 0; q < town.quarters; q++) {
                int far = ground.apart[q * MOST_CARTS + c];
                if (boxes[q] > 0 && !ground.bars(c, far) && town.hitOf(q, c, far, more[q]) == hit) {
                    bits |= 1 << q;
                }
            }
            return bits;
        }

        int measure(int q, int key) {
            switch (key) {
                case KEY_BOXES: return boxes[q];
                case KEY_MARKS: return marks[q];
                case KEY_WOUNDS: return wounds[q];
                case KEY_AIM: return town.aim[q];
                case KEY_SEES: return ground.sees[q];
                default: return q;
            }
        }
    }

    /** TOWN, PLANS, SENTENCE and all that is so: what an image keeps. */
    private static final class Scene {
        final Town town = new Town();
        final Plans plans = new Plans();
        final Saying saying = new Saying();
        final Ground ground = new Ground();
        final Fight fight = new Fight(town, plans, ground);

        void becomeTown(Town told) {
            town.takeFrom(told);
            ground.derive(town);
            plans.forget();
            saying.forget();
            fight.clearSand();
            fight.restart(0);
        }

        void takeFrom(Scene other) {
            town.takeFrom(other.town);
            ground.derive(town);
            plans.takeFrom(other.plans);
            saying.takeFrom(other.saying);
            fight.takeFrom(other.fight);
        }
    }

    /**
     * SURE DAYS. Without slips no QUARTER's throws hang on another's, only by how many they are JOINED:
     * each QUARTER's row of throws is kept, and how many threw in each VISIT.
     */
    private static final class SureDay {
        static final int BEST_NEAR = 12;
        static final int BEST_EACH = 20;
        static final int MOST_SPOTTED = 6;
        static final int MOST_TRIED = 6;

        final Town town;
        final Plans plans;
        final Ground ground;
        final int[] visitHit = new int[MOST_QUARTERS * MOST_VISITS];
        final int[] crowd = new int[MOST_VISITS];
        final int[] own = new int[MOST_QUARTERS];
        final int[] seen = new int[MOST_QUARTERS];
        final int[] used = new int[MOST_CARTS];
        final int[] spotted = new int[MOST_SPOTTED];
        final int[] has = new int[MOST_SPOTTED << MOST_SPOTTED];
        int tried;
        final int[] met = new int[2 * MOST_TRIED * MOST_TRIED];

        SureDay(Town town, Plans plans, Ground ground) {
            this.town = town;
            this.plans = plans;
            this.ground = ground;
        }

        int marksAsTold(int q) {
            playAll();
            return marksOf(q);
        }

        int marksWith(int q, int near, int each) {
            playAll();
            play(q, q, near, each, plans.feint[q]);
            return marksOf(q);
        }

        int bestPlan(int q) {
            // EACH 0 with NEAR 0, the first of all, has no marks.
            int found = 0;
            int most = 0;
            playAll();
            for (int each = 0; each <= BEST_EACH; each++) {
                for (int near = 0; near <= BEST_NEAR; near++) {
                    play(q, q, near, each, plans.feint[q]);
                    int marks = marksOf(q);
                    if (marks > most) {
                        most = marks;
                        found = 100 * near + each;
                    }
                }
            }
            return found;
        }

        int gainByJoining(int a, int b) {
            playAll();
            int without = marksOf(a) + marksOf(b);
            play(a, a, plans.near[b], plans.each[b], plans.feint[b]);
            return marksOf(a) + marksOf(b) - without;
        }

        boolean haveSpots(int spots) {
            if (spots < 0 || spots >> town.quarters != 0) {
                return false;
            }
            for (int q = 0; q < town.quarters; q++) {
                if ((spots >> q & 1) != 0 && town.spot[q] == NONE) {
                    return false;
                }
            }
            return true;
        }

        int marksStanding(int q, int spots) {
            playAll();
            for (int other = 0; other < town.quarters; other++) {
                standAt(other, spots >> other & 1);
            }
            return marksOf(q);
        }

        int restingSpots(int k) {
            int many = listSpotted();
            if (k < NONE || many > MOST_SPOTTED) {
                return NONE;
            }
            fillHas(many);
            int found = 0;
            for (int choice = 0; choice < 1 << many; choice++) {
                if (isAtRest(choice, many)) {
                    if (found == k) {
                        return spotsOf(choice, many);
                    }
                    found++;
                }
            }
            return k == NONE ? found : NONE;
        }

        private int listSpotted() {
            int many = 0;
            for (int q = 0; q < town.quarters; q++) {
                if (town.spot[q] != NONE) {
                    if (many < MOST_SPOTTED) {
                        spotted[many] = q;
                    }
                    many++;
                }
            }
            return many;
        }

        private void fillHas(int many) {
            playAll();
            for (int choice = 0; choice < 1 << many; choice++) {
                for (int i = 0; i < many; i++) {
                    standAt(spotted[i], choice >> i & 1);
                }
                for (int i = 0; i < many; i++) {
                    has[choice * MOST_SPOTTED + i] = marksOf(spotted[i]);
                }
            }
        }

        private boolean isAtRest(int choice, int many) {
            for (int i = 0; i < many; i++) {
                int changed = choice ^ 1 << i;
                if (has[changed * MOST_SPOTTED + i] > has[choice * MOST_SPOTTED + i]) {
                    return false;
                }
            }
            return true;
        }

        private int spotsOf(int choice, int many) {
            int spots = 0;
            for (int i = 0; i < many; i++) {
                spots |= (choice >> i & 1) << spotted[i];
            }
            return spots;
        }

        private void standAt(int q, int onSpot) {
            play(q, onSpot == 1 ? MOST_QUARTERS + q : q, plans.near[q], plans.each[q], plans.feint[q]);
        }

        int tryAll(Tape tape) {
            if (!isTable(tape)) {
                return NONE;
            }
            tried = tape.size / 2;
            playAll();
            for (int i = 0; i < tried; i++) {
                play(0, 0, tape.bytes[2 * i], tape.bytes[2 * i + 1], 0);
                for (int j = 0; j < tried; j++) {
                    play(1, 1, tape.bytes[2 * j], tape.bytes[2 * j + 1], 0);
                    met[2 * (i * MOST_TRIED + j)] = marksOf(0);
                    met[2 * (i * MOST_TRIED + j) + 1] = marksOf(1);
                }
            }
            return tried;
        }

        private boolean isTable(Tape tape) {
            if (town.quarters < 2 || tape.size < 2 || tape.size > 2 * MOST_TRIED || tape.size % 2 != 0) {
                return false;
            }
            for (int i = 0; i < tape.size; i += 2) {
                if (!isPlan(tape.bytes[i], tape.bytes[i + 1])) {
                    return false;
                }
            }
            return true;
        }

        int metMarks(int i, int j, int what) {
            if (i < 0 || i >= tried || j < 0 || j >= tried) {
                return NO_MARKS;
            }
            return met[2 * (i * MOST_TRIED + j) + what];
        }

        int bestReply(int j) {
            int found = NONE;
            for (int i = 0; i < tried && j >= 0 && j < tried; i++) {
                if (found == NONE || metMarks(i, j, 0) > metMarks(found, j, 0)) {
                    found = i;
                }
            }
            return found;
        }

        private void playAll() {
            Arrays.fill(visitHit, NONE);
            Arrays.fill(crowd, 0);
            for (int q = 0; q < town.quarters; q++) {
                standAt(q, 0);
            }
        }

        private int marksOf(int q) {
            int joined = 0;
            for (int i = 0; i < ground.busy; i++) {
                int visit = visitHit[q * MOST_VISITS + i];
                if (visit != NONE) {
                    joined += crowd[visit] - 1;
                }
            }
            return seen[q] * (own[q] + town.law[2] * joined);
        }

        private void play(int q, int place, int near, int each, int feint) {
            takeBack(q);
            seen[q] = ground.sees[place];
            own[q] = 0;
            Arrays.fill(used, 0);
            int boxes = town.boxes[q];
            int more = 0;
            for (int i = 0; i < ground.busy && boxes > 0; i++) {
                int visit = ground.nearestVisit(place, i, near, each, used, 0);
                int c = visit == NONE ? 0 : ground.cartOf[visit];
                int far = ground.apart[place * MOST_CARTS + c];
                if (visit == NONE || ground.bars(c, far)) {
                    continue;
                }
                if (feint == 1 && ground.minuteOf[i] % 2 == 1) {
                    more = FEINT_GIVES;
                    continue;
                }
                own[q] += town.marksFor(town.hitOf(q, c, far, more), far <= NEAR_THROW, 0);
                more = 0;
                boxes--;
                used[c]++;
                visitHit[q * MOST_VISITS + i] = visit;
                crowd[visit]++;
            }
        }

        private void takeBack(int q) {
            for (int i = q * MOST_VISITS; i < (q + 1) * MOST_VISITS; i++) {
                if (visitHit[i] != NONE) {
                    crowd[visitHit[i]]--;
                    visitHit[i] = NONE;
                }
            }
        }
    }

    /** What is asked by the tape's bytes or by numbers alone: DAYS, LOOKED AT, WALKS. */
    private static final class TapePuzzles {
        static final int MOST_WORTHS = 9;
        static final int ROW = 5;
        static final int MOST_ROWS = 12;
        static final int LAWS = 10000;
        static final int MOST_HELD = 100;

        final int[] spread = new int[ALL_DAYS];
        /** What so many boxes on one cart are worth together. */
        final int[] worthOf = new int[MOST_WORTHS + 1];
        int laws;
        final int[] heldLaws = new int[MOST_HELD];

        TapePuzzles() {
            Arrays.fill(spread, NONE);
        }

        int spreadBoxes(Tape tape, int n) {
            int most = tape.size - ALL_DAYS;
            if (n < 0 || n > 9999 || most < 1 || most > MOST_WORTHS) {
                return NONE;
            }
            for (int i = 0; i < most; i++) {
                worthOf[i + 1] = worthOf[i] + tape.bytes[ALL_DAYS + i];
            }
            int best = NONE;
            for (int a = 0; a <= most; a++) {
                for (int b = 0; b <= most; b++) {
                    for (int c = 0; c <= most; c++) {
                        int boxes = overDays(tape.bytes, a, b, c);
                        int worth = overDays(tape.bytes, worthOf[a], worthOf[b], worthOf[c]);
                        if (boxes <= n && worth > best) {
                            best = worth;
                            spread[0] = a;
                            spread[1] = b;
                            spread[2] = c;
                        }
                    }
                }
            }
            return best;
        }

        private static int overDays(int[] carts, int a, int b, int c) {
            return carts[0] * a + carts[1] * b + carts[2] * c;
        }

        int findLaws(Tape tape) {
            if (!areRows(tape)) {
                return NONE;
            }
            laws = 0;
            for (int law = 0; law < LAWS; law++) {
                if (tellsRows(law, tape)) {
                    if (laws < MOST_HELD) {
                        heldLaws[laws] = law;
                    }
                    laws++;
                }
            }
            return laws;
        }

        private static boolean areRows(Tape tape) {
            if (tape.size < ROW || tape.size > ROW * MOST_ROWS || tape.size % ROW != 0) {
                return false;
            }
            int[] row = tape.bytes;
            for (int i = 0; i < tape.size; i += ROW) {
                if (row[i] > 20 || row[i + 1] > 1 || row[i + 2] > 8 || row[i + 3] > 1) {
                    return false;
                }
            }
            return true;
        }

        private static boolean tellsRows(int law, Tape tape) {
            int aim = law / 1000;
            int bold = law / 100 % 10;
            int join = law / 10 % 10;
            int hurt = law % 10;
            int[] row = tape.bytes;
            for (int i = 0; i < tape.size; i += ROW) {
                int marks = aim * row[i] + bold * 2 * row[i + 1] + join * row[i + 2] - hurt * row[i + 3];
                if (marks != row[i + 4] - 100) {
                    return false;
                }
            }
            return true;
        }

        int lawAt(int k) {
            return k < 0 || k >= laws || k >= MOST_HELD ? NONE : heldLaws[k];
        }

        int rounds(int judges, int quarters) {
            if (judges < 1 || judges > 12 || quarters < 1 || quarters > MOST_QUARTERS) {
                return NONE;
            }
            int rounds = 1;
            while (rounds < quarters && rounds * judges % quarters != 0) {
                rounds++;
            }
            return rounds;
        }
    }

    /** What is asked of the TOWN as it is now: ORDER and SAND. */
    private static final class TownPuzzles {
        static final int MOST_ORDERED = 8;
        static final int IN_REACH = 3;
        static final int WET = 10;
        static final int SETS = 1 << MOST_QUARTERS;
        static final int BITS = 7;

        int ordered;
        final int[] order = new int[MOST_ORDERED];
        private int carts;
        private int waiting;
        private int shortest;
        private final int[] row = new int[MOST_ORDERED];
        private final int[] reached = new int[MOST_ORDERED];
        /** By how many CARTS were placed: at which place each QUARTER's latest one is. */
        private final int[] latest = new int[(MOST_ORDERED + 1) * MOST_QUARTERS];

        private int sandCells;
        private long sandRow;
        private final int[] covers = new int[CELLS];
        private final int[] fewest = new int[SETS];
        private final long[] firstRow = new long[SETS];

        int findOrder(Town town, Ground ground) {
            if (town.carts < 1 || town.carts > MOST_ORDERED) {
                return NONE;
            }
            carts = town.carts;
            waiting = 0;
            shortest = MOST_ORDERED;
            Arrays.fill(latest, NONE);
            for (int c = 0; c < carts; c++) {
                reached[c] = 0;
                for (int q = 0; q < town.quarters; q++) {
                    if (ground.apart[q * MOST_CARTS + c] <= IN_REACH) {
                        reached[c] |= 1 << q;
                    }
                }
                waiting |= reached[c];
            }
            placeNext(0, 0, 0);
            return shortest;
        }

        /** Rows come rising, and only a shorter wait is kept: so of like ones the first is. */
        private void placeNext(int placed, int taken, int longest) {
            int wait = Math.max(longest, waitAt(placed));
            if (wait >= shortest || placed > MOST_ORDERED) {
                return;
            }
            if (placed >= carts) {
                shortest = wait;
                ordered = carts;
                copyRow(row, order);
                return;
            }
            for (int c = 0; c < carts; c++) {
                if ((taken >> c & 1) == 0) {
                    row[placed] = c;
                    serve(placed, reached[c]);
                    placeNext(placed + 1, taken | 1 << c, wait);
                }
            }
        }

        /** How long a QUARTER has waited at most: what it waits in the end is no less. */
        private int waitAt(int placed) {
            int longest = 0;
            for (int q = 0; q < MOST_QUARTERS; q++) {
                if ((waiting >> q & 1) != 0) {
                    longest = Math.max(longest, placed - 1 - latest[placed * MOST_QUARTERS + q]);
                }
            }
            return longest;
        }

        private void serve(int placed, int served) {
            int from = placed * MOST_QUARTERS;
            for (int q = 0; q < MOST_QUARTERS; q++) {
                latest[from + MOST_QUARTERS + q] = (served >> q & 1) != 0 ? placed : latest[from + q];
            }
        }

        int findSand(Town town, Fight fight) {
            int all = findWet(town, fight);
            Arrays.fill(fewest, MOST_QUARTERS + 1);
            fewest[0] = 0;
            firstRow[0] = 0;
            for (int at = CELLS - 1; at >= 0; at--) {
                if (covers[at] != 0) {
                    layOn(at, all);
                }
            }
            sandCells = fewest[all];
            sandRow = firstRow[all];
            return sandCells;
        }

        /** The QUARTERS that want sand, as bits, and which of them each CELL would serve. */
        private int findWet(Town town, Fight fight) {
            int all = 0;
            Arrays.fill(covers, 0);
            for (int q = 0; q < town.quarters; q++) {
                if (fight.pulp[town.home[q]] >= WET && !hasSandNear(town, fight, town.home[q])) {
                    all |= 1 << q;
                    for (int side = 0; side < SIDES; side++) {
                        int at = town.sideOf(town.home[q], side);
                        if (at != NONE) {
                            covers[at] |= 1 << q;
                        }
                    }
                }
            }
            return all;
        }

        private static boolean hasSandNear(Town town, Fight fight, int home) {
            for (int side = 0; side < SIDES; side++) {
                int at = town.sideOf(home, side);
                if (at != NONE && fight.sanded[at] != 0) {
                    return true;
                }
            }
            return false;
        }

        /**
         * For each set of QUARTERS the fewest CELLS, and the first row of them, from this CELL on. CELLS come falling,
         * so that a row that begins here is ahead of those as short that do not; sets come falling, so that what
         * is left of a set still stands as it was without this CELL.
         */
        private void layOn(int at, int all) {
            for (int set = all; set > 0; set--) {
                int left = set & ~covers[at];
                if (left != set && fewest[left] + 1 <= fewest[set]) {
                    fewest[set] = fewest[left] + 1;
                    firstRow[set] = firstRow[left] | (long) at << BITS * fewest[left];
                }
            }
        }

        int sandAt(int i) {
            if (i < 0 || i >= sandCells) {
                return NONE;
            }
            return (int) (sandRow >> BITS * (sandCells - 1 - i)) & 127;
        }
    }
}
