import java.util.Arrays;

/**
 * A floor of squares on which carts fetch shelves and never meet.
 *
 * A set of squares is a long (a floor has at most 64), a STANCE is one int: the square in bits 0 to 5,
 * the HEADING in bits 6 and 7, and above them the number of the SHELF that is carried and 1 more.
 */
public final class CartFloor {
    private static final int NONE = -1;
    private static final int REFUSED = -2;
    private static final int GUEST_IN_TROUBLE = -3;
    private static final int NOTHING_THERE = -10;
    private static final int NO_PLACE = -11;
    private static final int OTHER_KIND = -12;
    private static final int SIZE_BELOW_0 = -13;
    private static final int NOT_FOR_LINE = -14;
    private static final int DIVISION_BY_0 = -15;

    private static final int PLAIN = 0;
    private static final int LIFTER = 1;
    private static final int LONG = 2;
    private static final int GUEST = 3;

    private static final int LAST_STEP = 4;
    private static final int LIFT = 5;
    private static final int LET_DOWN = 6;

    private static final int SHELF_PLACE = 2;
    private static final int STOPPED = 1;
    private static final int STRANDED = 2;

    private static final int CARTS = 6;
    private static final int SHELVES = 12;
    private static final int MOVES = 400;
    /** Nothing changes behind tick 401: the last END is 400, and a TURN is held for one tick more. */
    private static final int TICKS = 402;
    private static final int SQUARES = 64;
    private static final int STATES = 256;
    private static final int STATE = 255;
    private static final int KIND_STEPS = 5 * STATES;
    private static final int FAR = 1000000;

    private final Floor floor;
    private final Traffic traffic;
    private final Planner planner;
    private final Told told;
    private final Marks marks;
    private final Hooks hooks = new Hooks();
    private final Line queue = new Line();
    private Trio trio = null;
    private int day = 0;

    public CartFloor(int width, int height) {
        floor = new Floor(Math.min(8, Math.max(2, width)), Math.min(8, Math.max(2, height)));
        traffic = new Traffic(floor);
        planner = new Planner(floor, traffic);
        told = new Told(floor, traffic);
        marks = new Marks(floor);
    }

    public int lay(int x, int y, int ground) {
        int square = floor.number(x, y);
        if (square < 0 || ground < 0 || ground > 3 || traffic.isPeopled()) {
            return REFUSED;
        }
        int before = floor.ground[square];
        floor.ground[square] = ground;
        floor.findBarred();
        return before;
    }

    public int row(int y, boolean missing) {
        if (!floor.hasRow(y) || traffic.isPeopled()) {
            return REFUSED;
        }
        int before = floor.missing[y] ? 1 : 0;
        floor.missing[y] = missing;
        floor.findBarred();
        if (missing) {
            marks.lose(y);
        }
        return before;
    }

    public int shelf(int x, int y) {
        int square = floor.number(x, y);
        if (square < 0 || traffic.shelfCount >= SHELVES || traffic.anyMove()) {
            return REFUSED;
        }
        long place = bit(square);
        boolean taken = ((floor.barred | traffic.shelfMask(0, NONE) | traffic.stoodOnFirst()) & place) != 0;
        if (taken || floor.ground[square] != SHELF_PLACE) {
            return REFUSED;
        }
        return traffic.addShelf(square);
    }

    public int cart(int kind, int x, int y, int heading) {
        int square = floor.number(x, y);
        if (kind < PLAIN || kind > GUEST || square < 0 || heading < 0 || heading > 3) {
            return REFUSED;
        }
        if (traffic.cartCount >= CARTS || traffic.anyMove()) {
            return REFUSED;
        }
        int stance = stanceOf(square, heading, NONE);
        long hold = floor.standing(kind, stance);
        if (kind >= LONG && Long.bitCount(hold) < 2) {
            return REFUSED;
        }
        long others = traffic.stoodOnFirst() | (kind == LIFTER ? 0L : traffic.shelfMask(0, NONE));
        if ((hold & (floor.barred | others)) != 0) {
            return REFUSED;
        }
        return traffic.addCart(kind, stance);
    }

    public int errand(int c, int x, int y, int shelf) {
        Cart one = traffic.cartOf(c);
        int square = floor.number(x, y);
        if (one == null || one.kind == GUEST || one.goal >= 0 || one.fate != 0) {
            return REFUSED;
        }
        if (square < 0 || (floor.barred & bit(square)) != 0 || shelf < NONE || shelf >= traffic.shelfCount) {
            return REFUSED;
        }
        if (shelf >= 0 && !mayBring(one, square, shelf)) {
            return REFUSED;
        }
        one.goal = square;
        one.freight = shelf;
        return 1;
    }

    private boolean mayBring(Cart one, int square, int shelf) {
        if (one.kind != LIFTER || floor.ground[square] != SHELF_PLACE) {
            return false;
        }
        int load = loadOf(one.first);
        if (load >= 0 && load != shelf) {
            return false;
        }
        for (int i = 0; i < traffic.cartCount; i++) {
            Cart other = traffic.carts[i];
            if (other != one && (other.freight == shelf || loadOf(other.first) == shelf)) {
                return false;
            }
        }
        return true;
    }

    public int plan(int c) {
        Cart one = traffic.cartOf(c);
        if (one == null || !one.isOpen()) {
            return REFUSED;
        }
        return planner.find(one, 0) ? one.end : NONE;
    }

    public int many() {
        int found = 0;
        for (int i = 0; i < traffic.cartCount; i++) {
            Cart one = traffic.carts[i];
            if (one.isOpen() && planner.find(one, 0)) {
                found++;
            }
        }
        return found;
    }

    public int stop(int c, int k) {
        Cart one = traffic.cartOf(c);
        if (one == null || one.kind == GUEST || one.fate != 0 || k < planner.earliestStop || k > MOVES) {
            return REFUSED;
        }
        traffic.keepWays();
        one.cut(k);
        one.fate = STOPPED;
        traffic.replay();
        int found = planner.planTroubled(k);
        if (traffic.firstTroubled(k, true) >= 0) {
            traffic.restoreWays();
            return GUEST_IN_TROUBLE;
        }
        planner.earliestStop = k;
        return found;
    }

    public int dawn() {
        for (int i = 0; i < traffic.cartCount; i++) {
            traffic.carts[i].wake(traffic.stanceAt(i, TICKS));
        }
        for (int i = 0; i < traffic.shelfCount; i++) {
            traffic.shelves[i].first = traffic.shelfAt(i, TICKS);
        }
        planner.earliestStop = 0;
        traffic.replay();
        day++;
        return day;
    }

    public int tell(int move, int times) {
        if (move < 0 || move > LET_DOWN || times < 1 || times > MOVES - told.length) {
            return REFUSED;
        }
        return told.add(move, times);
    }

    public int hush() {
        int had = told.length;
        told.length = 0;
        return had;
    }

    public int check(int c) {
        Cart one = traffic.cartOf(c);
        return one == null ? REFUSED : told.judge(one);
    }

    public int guest(int c) {
        Cart one = traffic.cartOf(c);
        if (one == null || one.kind != GUEST || one.end > 0 || traffic.anyMoveButGuests()) {
            return REFUSED;
        }
        int answer = told.judge(one);
        if (answer >= 0) {
            System.arraycopy(told.moves, 0, one.way, 0, told.length);
            one.end = told.length;
            traffic.replay();
        }
        return answer;
    }

    public int at(int c, int t, int what) {
        Cart one = traffic.cartOf(c);
        if (one == null || t < 0) {
            return REFUSED;
        }
        int stance = traffic.stanceAt(c, t);
        switch (what) {
            case 0: return squareOf(stance);
            case 1: return headingOf(stance);
            case 2: return loadOf(stance);
            case 3: return one.moveFrom(t);
            default: return REFUSED;
        }
    }

    public int shelved(int s, int t) {
        if (s < 0 || s >= traffic.shelfCount || t < 0) {
            return REFUSED;
        }
        return traffic.shelfAt(s, t);
    }

    public int about(int c, int what) {
        Cart one = traffic.cartOf(c);
        if (one == null) {
            return REFUSED;
        }
        switch (what) {
            case 0: return one.kind;
            case 1: return one.end;
            case 2: return one.turns();
            case 3: return one.isOpen() ? 1 : 0;
            case 4: return one.fate;
            case 5: return one.goal;
            default: return REFUSED;
        }
    }

    public int count(int what) {
        switch (what) {
            case 0: return traffic.cartCount;
            case 1: return traffic.shelfCount;
            case 2: return traffic.errands();
            case 3: return traffic.openCarts();
            case 4: return traffic.fated(STOPPED);
            case 5: return traffic.fated(STRANDED);
            case 6: return traffic.sumOfEnds();
            case 7: return traffic.greatestEnd(null);
            case 8: return day;
            default: return REFUSED;
        }
    }

    public long digest() {
        long sum = 0;
        for (int i = 0; i < traffic.cartCount; i++) {
            Cart one = traffic.carts[i];
            for (int t = 0; t < one.end; t++) {
                sum = sum * 31 + one.way[t] + 1;
            }
        }
        return sum;
    }

    public boolean safe() {
        for (int i = 0; i < traffic.cartCount; i++) {
            Cart one = traffic.carts[i];
            if (one.kind > LIFTER || one.freight >= 0) {
                return false;
            }
        }
        for (int i = 0; i < traffic.cartCount; i++) {
            if (traffic.carts[i].goal >= 0 && !hasOpenPath(traffic.carts[i])) {
                return false;
            }
        }
        return true;
    }

    /** Another cart, or another ERRAND's END SQUARE, on this END SQUARE leaves no path to it either. */
    private boolean hasOpenPath(Cart one) {
        long shut = floor.barred | traffic.shelfMask(0, NONE);
        for (int i = 0; i < traffic.cartCount; i++) {
            Cart other = traffic.carts[i];
            if (other != one) {
                shut |= bit(other.goal) | bit(squareOf(other.first));
            }
        }
        return (floor.flood(bit(squareOf(one.first)), floor.all & ~shut) & bit(one.goal)) != 0;
    }

    public int few(int a, int b, int c) {
        boolean pair = c == NONE;
        if (!mayBeOfFew(a) || !mayBeOfFew(b) || !pair && !mayBeOfFew(c)) {
            return REFUSED;
        }
        if (a == b || a == c || b == c || Long.bitCount(floor.all & ~floor.barred) > Trio.SEATS) {
            return REFUSED;
        }
        if (trio == null) {
            trio = new Trio(floor, traffic);
        }
        return trio.leastSum(a, b, c);
    }

    private boolean mayBeOfFew(int c) {
        Cart one = traffic.cartOf(c);
        return one != null && one.kind <= LIFTER && loadOf(one.first) < 0 && one.goal >= 0 && one.freight < 0;
    }

    public int hang(int k, int sort, int n) {
        if (sort < Hooks.EMPTY || sort > Hooks.SHELF) {
            return REFUSED;
        }
        if (!hooks.hasHook(k)) {
            return NO_PLACE;
        }
        int known = sort == Hooks.CART ? traffic.cartCount : traffic.shelfCount;
        if (sort != Hooks.EMPTY && (n < 0 || n >= known)) {
            return NOTHING_THERE;
        }
        return hooks.put(k, sort, n);
    }

    public int take(int k, int kind) {
        if (kind < PLAIN || kind > GUEST + 1) {
            return REFUSED;
        }
        if (!hooks.hasHook(k)) {
            return NO_PLACE;
        }
        if (hooks.sorts[k] == Hooks.EMPTY) {
            return NOTHING_THERE;
        }
        Cart hung = hooks.sorts[k] == Hooks.CART ? traffic.cartOf(hooks.numbers[k]) : null;
        boolean right = kind > GUEST ? hooks.sorts[k] == Hooks.SHELF : hung != null && hung.kind >= kind;
        return right ? hooks.numbers[k] : OTHER_KIND;
    }

    public int weight(int k) {
        if (!hooks.hasHook(k)) {
            return NO_PLACE;
        }
        int n = hooks.numbers[k];
        if (hooks.sorts[k] == Hooks.SHELF) {
            return shelfWeight(n);
        }
        Cart hung = hooks.sorts[k] == Hooks.CART ? traffic.cartOf(n) : null;
        if (hung == null) {
            return NOTHING_THERE;
        }
        switch (hung.kind) {
            case PLAIN: return 10;
            case LIFTER: return 15 + shelfWeight(loadOf(traffic.stanceAt(n, TICKS)));
            case LONG: return 30;
            default: return 12;
        }
    }

    private static int shelfWeight(int shelf) {
        return shelf < 0 ? 0 : 5 + shelf;
    }

    public int mark(int x, int y, int v) {
        if (!floor.hasRow(y)) {
            return NO_PLACE;
        }
        if (floor.missing[y]) {
            return NOTHING_THERE;
        }
        int square = floor.number(x, y);
        if (square < 0) {
            return NO_PLACE;
        }
        int before = marks.values[square];
        marks.values[square] = (byte) v;
        return before + 1000;
    }

    public int copy(int y, int x, int other, int place, int n) {
        if (!floor.hasRow(y) || !floor.hasRow(other)) {
            return NO_PLACE;
        }
        if (floor.missing[y] || floor.missing[other]) {
            return NOTHING_THERE;
        }
        boolean within = n >= 0 && n <= floor.width;
        if (!within || x < 0 || place < 0 || x > floor.width - n || place > floor.width - n) {
            return NO_PLACE;
        }
        marks.bring(y * floor.width + x, other * floor.width + place, n);
        return marks.sumOf(other) + 10000;
    }

    public int line(int kind, int n) {
        if (kind < PLAIN || kind > GUEST || n > Line.PLACES) {
            return REFUSED;
        }
        if (n < 0) {
            return SIZE_BELOW_0;
        }
        queue.begin(kind, n);
        return n;
    }

    public int slot(int i, int c) {
        Cart one = traffic.cartOf(c);
        if (one == null) {
            return REFUSED;
        }
        if (queue.length < 0) {
            return NOTHING_THERE;
        }
        if (i < 0 || i >= queue.length) {
            return NO_PLACE;
        }
        if (one.kind < queue.kind) {
            return NOT_FOR_LINE;
        }
        queue.places[i] = one;
        return queue.filled();
    }

    public int mean(int n) {
        if (queue.length < 0) {
            return NOTHING_THERE;
        }
        return n == 0 ? DIVISION_BY_0 : queue.sumOfEnds() / n;
    }

    private static int stanceOf(int square, int heading, int load) {
        return square | heading << 6 | load + 1 << 8;
    }

    private static int loaded(int stance, int load) {
        return stance & STATE | load + 1 << 8;
    }

    private static int squareOf(int stance) {
        return stance & 63;
    }

    private static int headingOf(int stance) {
        return stance >> 6 & 3;
    }

    private static int loadOf(int stance) {
        return (stance >> 8) - 1;
    }

    /** No square is no bit, so that an END SQUARE that isn't there needs no test of its own. */
    private static long bit(int square) {
        return square < 0 ? 0L : 1L << square;
    }

    private static boolean isTurn(int kind, int heading, int move) {
        if (kind >= LONG) {
            return move == 3 || move == 4;
        }
        return move >= 1 && move <= LAST_STEP && move - 1 != heading;
    }

    /** Whether two carts change places: one goes from a0 to a1 while the other goes from b0 to b1. */
    private static boolean swap(long a0, long a1, long b0, long b1) {
        long r = a0 & b1;
        long s = a1 & b0;
        return r != 0 && s != 0 && (r != s || Long.bitCount(r) > 1);
    }

    /**
     * The squares, what they are, and what a MOVE leads to. A state is the lower byte of a STANCE. Each table
     * has a part for carts of one square and, behind it, one for carts of two.
     */
    static final class Floor {
        final int width;
        final int height;
        final long all;
        final long notFirst;
        final long notLast;
        final int[] ground = new int[SQUARES];
        final boolean[] missing = new boolean[8];
        /** For each of the MOVES 0 to 4 and each state the one behind it, NONE if it can't be made. */
        final int[] moved = new int[2 * KIND_STEPS];
        /** For each state what the cart stands on. */
        final long[] stood = new long[2 * STATES];
        /** For the MOVES 3 and 4 of carts of two squares, and each state, the FOUR squares of the TURN. */
        final long[] swept = new long[2 * STATES];
        long barred = 0;

        Floor(int width, int height) {
            this.width = width;
            this.height = height;
            long first = 0;
            long last = 0;
            long every = 0;
            for (int y = 0; y < height; y++) {
                first |= 1L << y * width;
                last |= 1L << y * width + width - 1;
                every |= (1L << width) - 1 << y * width;
            }
            all = every;
            notFirst = every & ~first;
            notLast = every & ~last;
            Arrays.fill(moved, NONE);
            for (int state = 0; state < STATES; state++) {
                if ((every & bit(squareOf(state))) != 0) {
                    findSteps(state);
                    findLongSteps(state);
                }
            }
        }

        private void findSteps(int state) {
            int square = squareOf(state);
            stood[state] = bit(square);
            moved[state] = state;
            for (int d = 0; d < 4; d++) {
                moved[(d + 1) * STATES + state] = stateOf(next(square, d), d);
            }
        }

        private void findLongSteps(int state) {
            int square = squareOf(state);
            int heading = headingOf(state);
            int behind = next(square, heading ^ 2);
            if (behind < 0) {
                return;
            }
            stood[STATES + state] = bit(square) | bit(behind);
            moved[KIND_STEPS + state] = state;
            moved[KIND_STEPS + STATES + state] = stateOf(next(square, heading), heading);
            boolean back = next(behind, heading ^ 2) >= 0;
            moved[KIND_STEPS + 2 * STATES + state] = back ? stateOf(behind, heading) : NONE;
            findTurn(state, 3, heading + 3 & 3);
            findTurn(state, 4, heading + 1 & 3);
        }

        private void findTurn(int state, int move, int heading) {
            int corner = next(squareOf(state), heading);
            int beside = next(next(squareOf(state), headingOf(state) ^ 2), heading);
            if (corner >= 0 && beside >= 0) {
                moved[KIND_STEPS + move * STATES + state] = stateOf(beside, heading);
                swept[(move - 3) * STATES + state] = stood[STATES + state] | bit(beside) | bit(corner);
            }
        }

        private int stateOf(int square, int heading) {
            return square < 0 ? NONE : square | heading << 6;
        }

        private int next(int square, int direction) {
            long there = shift(bit(square), direction);
            return there == 0 ? NONE : Long.bitCount(there - 1);
        }

        boolean hasRow(int y) {
            return y >= 0 && y < height;
        }

        int number(int x, int y) {
            return x < 0 || x >= width || !hasRow(y) ? NONE : y * width + x;
        }

        void findBarred() {
            barred = 0;
            for (int square = 0; square < width * height; square++) {
                if (ground[square] == 1 || missing[square / Math.max(1, width)]) {
                    barred |= 1L << square;
                }
            }
        }

        long shift(long squares, int direction) {
            switch (direction) {
                case 0: return squares >>> width;
                case 1: return (squares & notLast) << 1;
                case 2: return squares << width & all;
                default: return (squares & notFirst) >>> 1;
            }
        }

        long spread(long squares) {
            return squares | shift(squares, 0) | shift(squares, 1) | shift(squares, 2) | shift(squares, 3);
        }

        long flood(long start, long open) {
            long reached = start & open;
            for (int n = 0; n < SQUARES; n++) {
                reached = spread(reached) & open;
            }
            return reached;
        }

        long standing(int kind, int stance) {
            return stood[(kind >= LONG ? STATES : 0) + (stance & STATE)];
        }

        /** The FOUR squares if the MOVE is a TURN of a cart of two squares, and can be made; else none. */
        long turnSquares(int kind, int stance, int move) {
            boolean turn = kind >= LONG && move >= 3 && move <= LAST_STEP;
            return turn ? swept[(move - 3) * STATES + (stance & STATE)] : 0L;
        }

        /** The STANCE behind a MOVE, NONE if it can't be made; lying: the SHELF that could be lifted. */
        int after(int kind, int stance, int move, int lying) {
            if (move <= LAST_STEP) {
                int state = moved[(kind >= LONG ? KIND_STEPS : 0) + move * STATES + (stance & STATE)];
                return state < 0 ? NONE : stance & ~STATE | state;
            }
            if (kind != LIFTER) {
                return NONE;
            }
            int load = loadOf(stance);
            if (move == LIFT) {
                return load < 0 && lying >= 0 ? loaded(stance, lying) : NONE;
            }
            boolean place = ground[squareOf(stance)] == SHELF_PLACE;
            return load >= 0 && place ? loaded(stance, NONE) : NONE;
        }
    }

    /** A cart: its WAY and ERRAND, and, as Traffic finds them, what it stands on and HOLDS at each tick. */
    static final class Cart {
        final byte[] way = new byte[MOVES];
        final byte[] keptWay = new byte[MOVES];
        final int[] stances = new int[TICKS];
        final long[] stands = new long[TICKS];
        final long[] holds = new long[TICKS];
        int kind = PLAIN;
        int first = 0;
        int end = 0;
        int goal = NONE;
        int freight = NONE;
        int fate = 0;
        boolean planned = false;
        boolean stuck = false;
        int keptEnd = 0;
        int keptFate = 0;

        boolean isOpen() {
            return goal >= 0 && !planned && fate == 0;
        }

        int moveFrom(int t) {
            return t >= 0 && t < end ? way[t] : 0;
        }

        int turns() {
            int n = 0;
            for (int t = 0; t < end; t++) {
                if (isTurn(kind, headingOf(stances[t]), way[t])) {
                    n++;
                }
            }
            return n;
        }

        void wake(int stance) {
            first = stance;
            end = 0;
            goal = NONE;
            freight = NONE;
            fate = 0;
            planned = false;
        }

        void cut(int k) {
            end = Math.min(end, k);
        }

        void keep() {
            System.arraycopy(way, 0, keptWay, 0, MOVES);
            keptEnd = end;
            keptFate = fate;
        }

        void restore() {
            System.arraycopy(keptWay, 0, way, 0, MOVES);
            end = keptEnd;
            fate = keptFate;
        }
    }

    /** A SHELF: where it is at tick 0, and, as Traffic finds it, at each tick. */
    static final class Shelf {
        final int[] squares = new int[TICKS];
        int first = 0;
    }

    /** All carts and SHELVES, and where they are when the WAYS are gone. */
    static final class Traffic {
        final Floor floor;
        final Cart[] carts = new Cart[CARTS];
        final Shelf[] shelves = new Shelf[SHELVES];
        int cartCount = 0;
        int shelfCount = 0;
        /** From this tick on nothing changes; what is known of each tick is known up to it. */
        int settled = 0;

        Traffic(Floor floor) {
            this.floor = floor;
            for (int i = 0; i < CARTS; i++) {
                carts[i] = new Cart();
            }
            for (int i = 0; i < SHELVES; i++) {
                shelves[i] = new Shelf();
            }
        }

        int addCart(int kind, int stance) {
            Cart one = carts[cartCount];
            one.kind = kind;
            one.wake(stance);
            cartCount++;
            replay();
            return cartCount - 1;
        }

        int addShelf(int square) {
            shelves[shelfCount].first = square;
            shelfCount++;
            replay();
            return shelfCount - 1;
        }

        boolean isPeopled() {
            return cartCount > 0 || shelfCount > 0;
        }

        Cart cartOf(int c) {
            return c < 0 || c >= cartCount ? null : carts[c];
        }

        int stanceAt(int c, int t) {
            return carts[c].stances[Math.min(t, settled)];
        }

        int shelfAt(int s, int t) {
            return shelves[s].squares[Math.min(t, settled)];
        }

        boolean anyMove() {
            return greatestEnd(null) > 0;
        }

        boolean anyMoveButGuests() {
            for (int i = 0; i < cartCount; i++) {
                if (carts[i].kind != GUEST && carts[i].end > 0) {
                    return true;
                }
            }
            return false;
        }

        int greatestEnd(Cart except) {
            int greatest = 0;
            for (int i = 0; i < cartCount; i++) {
                if (carts[i] != except) {
                    greatest = Math.max(greatest, carts[i].end);
                }
            }
            return greatest;
        }

        int sumOfEnds() {
            int sum = 0;
            for (int i = 0; i < cartCount; i++) {
                sum += carts[i].end;
            }
            return sum;
        }

        int errands() {
            int n = 0;
            for (int i = 0; i < cartCount; i++) {
                n += carts[i].goal >= 0 ? 1 : 0;
            }
            return n;
        }

        int openCarts() {
            int n = 0;
            for (int i = 0; i < cartCount; i++) {
                n += carts[i].isOpen() ? 1 : 0;
            }
            return n;
        }

        int fated(int fate) {
            int n = 0;
            for (int i = 0; i < cartCount; i++) {
                n += carts[i].fate == fate ? 1 : 0;
            }
            return n;
        }

        /** Goes all WAYS from tick 0 on; a MOVE that can't be made counts as 0. */
        void replay() {
            settled = greatestEnd(null) + 1;
            for (int i = 0; i < cartCount; i++) {
                Cart one = carts[i];
                one.stuck = false;
                one.stances[0] = one.first;
                one.stands[0] = floor.standing(one.kind, one.first);
            }
            for (int i = 0; i < shelfCount; i++) {
                shelves[i].squares[0] = shelves[i].first;
            }
            for (int t = 0; t < settled; t++) {
                for (int i = 0; i < cartCount; i++) {
                    moveOn(carts[i], t);
                }
                bringShelves(t + 1);
            }
            for (int i = 0; i < cartCount; i++) {
                findHolds(carts[i]);
            }
        }

        private void moveOn(Cart one, int t) {
            int stance = one.stances[t];
            int move = one.moveFrom(t);
            int lying = move == LIFT ? lyingOn(squareOf(stance), t) : NONE;
            int next = floor.after(one.kind, stance, move, lying);
            if (next < 0) {
                one.stuck = true;
                next = stance;
            }
            one.stances[t + 1] = next;
            one.stands[t + 1] = floor.standing(one.kind, next);
        }

        private void bringShelves(int t) {
            for (int i = 0; i < shelfCount; i++) {
                shelves[i].squares[t] = shelves[i].squares[t - 1];
            }
            for (int i = 0; i < cartCount; i++) {
                int load = loadOf(carts[i].stances[t]);
                if (load >= 0 && load < shelfCount) {
                    shelves[load].squares[t] = squareOf(carts[i].stances[t]);
                }
            }
        }

        private void findHolds(Cart one) {
            System.arraycopy(one.stands, 0, one.holds, 0, settled + 1);
            if (one.kind < LONG) {
                return;
            }
            for (int t = 0; t < one.end; t++) {
                long four = floor.turnSquares(one.kind, one.stances[t], one.way[t]);
                one.holds[t] |= four;
                one.holds[t + 1] |= four;
            }
        }

        private int lyingOn(int square, int t) {
            for (int i = 0; i < shelfCount; i++) {
                if (liesOn(i, square, t)) {
                    return i;
                }
            }
            return NONE;
        }

        /** Whether a SHELF that no cart carries is on a square. */
        boolean liesOn(int shelf, int square, int t) {
            if (shelfAt(shelf, t) != square) {
                return false;
            }
            for (int i = 0; i < cartCount; i++) {
                if (loadOf(stanceAt(i, t)) == shelf) {
                    return false;
                }
            }
            return true;
        }

        long shelfMask(int t, int except) {
            long mask = 0;
            for (int i = 0; i < shelfCount; i++) {
                if (i != except) {
                    mask |= bit(shelfAt(i, t));
                }
            }
            return mask;
        }

        /** What all carts stand on at tick 0. */
        long stoodOnFirst() {
            long mask = 0;
            for (int i = 0; i < cartCount; i++) {
                mask |= carts[i].stands[0];
            }
            return mask;
        }

        /** What a cart must not HOLD at a tick, carrying a SHELF or none. */
        long blockedFor(Cart one, int load, int t) {
            long mask = ~floor.all | floor.barred;
            for (int i = 0; i < cartCount; i++) {
                if (carts[i] != one) {
                    mask |= carts[i].holds[Math.min(t, settled)];
                }
            }
            return one.kind == LIFTER && load < 0 ? mask : mask | shelfMask(t, load);
        }

        /** Whether a cart that goes from a stand to another, and HOLDS this at tick t, MEETS another one. */
        boolean meetsAny(Cart one, long before, long stand, long hold, int t) {
            int now = Math.min(t, settled);
            for (int i = 0; i < cartCount; i++) {
                Cart other = carts[i];
                if (other == one) {
                    continue;
                }
                if ((other.holds[now] & hold) != 0) {
                    return true;
                }
                long otherBefore = other.stands[Math.max(0, Math.min(t - 1, settled))];
                if (t > 0 && swap(before, stand, otherBefore, other.stands[now])) {
                    return true;
                }
            }
            return false;
        }

        void keepWays() {
            for (int i = 0; i < cartCount; i++) {
                carts[i].keep();
            }
        }

        void restoreWays() {
            for (int i = 0; i < cartCount; i++) {
                carts[i].restore();
            }
            replay();
        }

        boolean isTroubled(Cart one, int k) {
            if (one.fate != 0 || one.end <= k) {
                return false;
            }
            if (one.stuck) {
                return true;
            }
            for (int t = k + 1; t <= settled; t++) {
                long blocked = blockedFor(one, loadOf(one.stances[t]), t);
                long hold = one.holds[t];
                if ((blocked & hold) != 0 || meetsAny(one, one.stands[t - 1], one.stands[t], hold, t)) {
                    return true;
                }
            }
            return false;
        }

        int firstTroubled(int k, boolean guests) {
            for (int i = 0; i < cartCount; i++) {
                if ((carts[i].kind == GUEST) == guests && isTroubled(carts[i], k)) {
                    return i;
                }
            }
            return NONE;
        }
    }

    /**
     * To GO: layers of what can be reached, tick by tick, up to the first one with the goal in it; then,
     * from there back, the fewest TURNS to go from each state and the least MOVE by which they are that.
     * A state is the lower byte of a STANCE.
     */
    static final class Search {
        final Floor floor;
        final Traffic traffic;
        final long[] taboo = new long[TICKS];
        final long[] everTaboo = new long[TICKS];
        final long[] reach = new long[4 * TICKS];
        final long[] picks = new long[16 * MOVES];
        final int[] turnsToGo = new int[2 * STATES];
        final long[] faced = new long[4];
        Cart rider = null;
        int calm = 0;
        int goal = 0;
        int wanted = NONE;
        boolean forGood = false;
        int landing = 0;

        Search(Floor floor, Traffic traffic) {
            this.floor = floor;
            this.traffic = traffic;
        }

        /** The tick of arrival, NONE if there is none; the MOVES are in the cart's WAY, landing is its STANCE. */
        int go(Cart one, int stance, int from, int goal, int wanted, boolean forGood) {
            this.rider = one;
            this.goal = goal;
            this.wanted = wanted;
            this.forGood = forGood;
            findTaboo(loadOf(stance), from);
            long hold = floor.standing(one.kind, stance);
            if (one.kind >= LONG) {
                hold |= one.holds[from];
            }
            if ((hold & taboo[from]) != 0) {
                return NONE;
            }
            for (int h = 0; h < 4; h++) {
                reach[4 * from + h] = h == headingOf(stance) ? bit(squareOf(stance)) : 0L;
            }
            int arrival = findArrival(from);
            if (arrival < 0) {
                return NONE;
            }
            for (int t = arrival - 1; t >= from; t--) {
                narrow(t);
            }
            follow(stance, from, arrival);
            return arrival;
        }

        private void findTaboo(int load, int from) {
            calm = Math.max(from, traffic.greatestEnd(rider) + 1);
            long ever = 0;
            for (int t = calm; t >= from; t--) {
                taboo[t] = traffic.blockedFor(rider, load, t);
                ever |= taboo[t];
                everTaboo[t] = ever;
            }
        }

        private long tabooAt(int t) {
            return taboo[Math.min(t, calm)];
        }

        private int findArrival(int from) {
            for (int t = from; t <= MOVES; t++) {
                if (arrives(t)) {
                    return t;
                }
                if (t == MOVES) {
                    return NONE;
                }
                if (rider.kind >= LONG) {
                    advanceLong(t);
                } else {
                    advance(t);
                }
                if (isSpent(t)) {
                    return NONE;
                }
            }
            return NONE;
        }

        /** Leaves only the states of arrival in a layer that has one. */
        private boolean arrives(int t) {
            if (wanted >= 0 && !traffic.liesOn(wanted, goal, t)) {
                return false;
            }
            long never = forGood ? everTaboo[Math.min(t, calm)] : 0L;
            boolean found = false;
            for (int h = 0; h < 4; h++) {
                found |= arrivesHeaded(t, h, never);
            }
            for (int h = 0; h < 4 && found; h++) {
                boolean kept = arrivesHeaded(t, h, never);
                reach[4 * t + h] = kept ? bit(goal) : 0L;
                turnsToGo[(t & 1) * STATES + (h << 6 | goal)] = 0;
            }
            return found;
        }

        private boolean arrivesHeaded(int t, int h, long never) {
            boolean there = (reach[4 * t + h] & bit(goal)) != 0;
            return there && (floor.standing(rider.kind, stanceOf(goal, h, NONE)) & never) == 0;
        }

        /** Whether no later layer can have what this one hasn't. */
        private boolean isSpent(int t) {
            boolean empty = true;
            boolean same = t >= calm;
            for (int h = 0; h < 4; h++) {
                empty &= reach[4 * t + 4 + h] == 0;
                same &= reach[4 * t + 4 + h] == reach[4 * t + h];
            }
            return empty || same;
        }

        private void advance(int t) {
            findFaced(t);
            long free = ~tabooAt(t + 1);
            int now = 4 * t;
            long any = reach[now] | reach[now + 1] | reach[now + 2] | reach[now + 3];
            for (int d = 0; d < 4; d++) {
                reach[now + 4 + d] = (reach[now + d] | floor.shift(any & ~faced[d], d)) & free;
            }
        }

        /**
         * The squares from which a step would change places with a cart that comes the other way.
         * Only carts of one square can do that: those of two pass a square that both would HOLD.
         */
        private void findFaced(int t) {
            Arrays.fill(faced, 0L);
            for (int i = 0; i < traffic.cartCount && t < calm; i++) {
                Cart other = traffic.carts[i];
                long left = other.stands[t] & ~other.stands[t + 1];
                if (other != rider && left != 0) {
                    long come = other.stands[t + 1] & ~other.stands[t];
                    for (int d = 0; d < 4; d++) {
                        faced[d] |= come & floor.shift(left, d ^ 2);
                    }
                }
            }
        }

        private void advanceLong(int t) {
            long free = ~tabooAt(t + 1);
            long both = free & ~tabooAt(t);
            for (int h = 0; h < 4; h++) {
                long here = reach[4 * t + h];
                long stepped = here | floor.shift(here, h) | floor.shift(here, h ^ 2);
                long come = stepped & free & floor.shift(free, h);
                come |= turned(reach[4 * t + (h + 1 & 3)], h + 1 & 3, h, both);
                come |= turned(reach[4 * t + (h + 3 & 3)], h + 3 & 3, h, both);
                reach[4 * t + 4 + h] = come;
            }
        }

        /** Where the TURNS from one HEADING to another lead whose FOUR squares are free. */
        private long turned(long here, int before, int after, long free) {
            long beside = floor.shift(free, after ^ 2);
            long able = here & free & floor.shift(free, before) & beside & floor.shift(beside, before);
            return floor.shift(floor.shift(able, before ^ 2), after);
        }

        /** Keeps of a layer what leads to the next one, with the best MOVE of each state. */
        private void narrow(int t) {
            int now = 4 * t;
            long near = floor.spread(reach[now + 4] | reach[now + 5] | reach[now + 6] | reach[now + 7]);
            if (rider.kind >= LONG) {
                near = floor.spread(near);
            }
            findFaced(t);
            for (int h = 0; h < 4; h++) {
                long left = reach[now + h] & near;
                long kept = 0;
                for (int n = 0; n < SQUARES && left != 0; n++) {
                    long low = left & -left;
                    left ^= low;
                    if (pick(t, h << 6 | Long.bitCount(low - 1))) {
                        kept |= low;
                    }
                }
                reach[now + h] = kept;
            }
        }

        private boolean pick(int t, int state) {
            int best = NONE;
            int fewest = FAR;
            for (int move = 0; move <= LAST_STEP; move++) {
                int next = floor.after(rider.kind, state, move, NONE);
                if (next >= 0 && leads(t, state, next, move)) {
                    int turns = turnsToGo[(t + 1 & 1) * STATES + next];
                    turns += isTurn(rider.kind, headingOf(state), move) ? 1 : 0;
                    if (turns < fewest) {
                        fewest = turns;
                        best = move;
                    }
                }
            }
            if (best < 0) {
                return false;
            }
            turnsToGo[(t & 1) * STATES + state] = fewest;
            int place = 16 * t + (state >> 4);
            int nibble = 4 * (state & 15);
            picks[place] = picks[place] & ~(15L << nibble) | (long) best << nibble;
            return true;
        }

        private boolean leads(int t, int state, int next, int move) {
            if ((reach[4 * t + 4 + headingOf(next)] & bit(squareOf(next))) == 0) {
                return false;
            }
            if (rider.kind < LONG) {
                return move == 0 || (faced[move - 1] & bit(squareOf(state))) == 0;
            }
            return (floor.turnSquares(rider.kind, state, move) & (tabooAt(t) | tabooAt(t + 1))) == 0;
        }

        private void follow(int stance, int from, int arrival) {
            landing = stance;
            for (int t = from; t < arrival; t++) {
                int state = landing & STATE;
                int move = (int) (picks[16 * t + (state >> 4)] >>> 4 * (state & 15)) & 15;
                rider.way[t] = (byte) move;
                landing = floor.after(rider.kind, landing, move, NONE);
            }
        }
    }

    /** PLANS carts by their ERRANDS, and around those that stop. */
    static final class Planner {
        /** The document tells no bound for how often stop() plans; behind so many a cart is STRANDED. */
        private static final int ROUNDS = 10000;

        final Floor floor;
        final Traffic traffic;
        final Search search;
        int earliestStop = 0;

        Planner(Floor floor, Traffic traffic) {
            this.floor = floor;
            this.traffic = traffic;
            this.search = new Search(floor, traffic);
        }

        /** PLANS a cart that has no MOVES from tick k on; without a PLAN it stays so. */
        boolean find(Cart one, int k) {
            int stance = one.stances[k];
            int tick = k;
            if (one.freight >= 0 && loadOf(stance) != one.freight) {
                int place = traffic.shelfAt(one.freight, TICKS);
                tick = search.go(one, stance, tick, place, one.freight, false);
                tick = tick < 0 ? NONE : act(one, LIFT, tick);
                stance = search.landing;
            }
            tick = tick < 0 ? NONE : search.go(one, stance, tick, one.goal, NONE, true);
            if (tick >= 0 && one.freight >= 0) {
                tick = act(one, LET_DOWN, tick);
            }
            if (tick < 0) {
                return false;
            }
            one.end = tick;
            one.planned = true;
            traffic.replay();
            return true;
        }

        /** Lifts or lets down where the search has landed: the tick behind it, NONE if it can't be. */
        private int act(Cart one, int move, int tick) {
            int stance = floor.after(one.kind, search.landing, move, one.freight);
            if (tick >= MOVES || stance < 0) {
                return NONE;
            }
            long blocked = traffic.blockedFor(one, loadOf(stance), tick + 1);
            if ((floor.standing(one.kind, stance) & blocked) != 0) {
                return NONE;
            }
            one.way[tick] = (byte) move;
            search.landing = stance;
            return tick + 1;
        }

        /** PLANS those that are TROUBLED and no GUESTS: how many times a PLAN was found. */
        int planTroubled(int k) {
            int found = 0;
            for (int n = 0; n < ROUNDS + CARTS; n++) {
                Cart next = traffic.cartOf(traffic.firstTroubled(k, false));
                if (next == null) {
                    return found;
                }
                next.cut(k);
                traffic.replay();
                if (n < ROUNDS && find(next, k)) {
                    found++;
                } else {
                    next.fate = STRANDED;
                }
            }
            return found;
        }
    }

    /** The TOLD row, and whether it would be right as the WAY of a cart. */
    static final class Told {
        final Floor floor;
        final Traffic traffic;
        final byte[] moves = new byte[MOVES];
        final int[] places = new int[SHELVES];
        final boolean[] foreign = new boolean[SHELVES];
        int length = 0;

        Told(Floor floor, Traffic traffic) {
            this.floor = floor;
            this.traffic = traffic;
        }

        int add(int move, int times) {
            Arrays.fill(moves, length, length + times, (byte) move);
            length += times;
            return length;
        }

        int judge(Cart one) {
            findForeign(one);
            int stance = one.first;
            long before = 0;
            long swept = 0;
            int last = Math.max(length, traffic.settled) + 1;
            for (int t = 0; t <= last; t++) {
                int move = t < length ? moves[t] : 0;
                int next = floor.after(one.kind, stance, move, liftable(squareOf(stance)));
                long four = floor.turnSquares(one.kind, stance, move);
                long stand = floor.standing(one.kind, stance);
                long hold = stand | swept | four;
                if (!fits(one, loadOf(stance), hold, t) || traffic.meetsAny(one, before, stand, hold, t)) {
                    return -10 - t;
                }
                if (next < 0) {
                    return -10 - (t + 1);
                }
                before = stand;
                swept = four;
                stance = next;
                carry(loadOf(stance), squareOf(stance));
            }
            return length;
        }

        /** A SHELF that another cart carries goes with that one, and can't be lifted. */
        private void findForeign(Cart one) {
            for (int i = 0; i < traffic.shelfCount; i++) {
                places[i] = traffic.shelfAt(i, 0);
                foreign[i] = false;
            }
            for (int i = 0; i < traffic.cartCount; i++) {
                for (int t = 0; t <= traffic.settled && traffic.carts[i] != one; t++) {
                    int load = loadOf(traffic.carts[i].stances[t]);
                    if (load >= 0 && load < traffic.shelfCount) {
                        foreign[load] = true;
                    }
                }
            }
        }

        private int liftable(int square) {
            for (int i = 0; i < traffic.shelfCount; i++) {
                if (!foreign[i] && places[i] == square) {
                    return i;
                }
            }
            return NONE;
        }

        private boolean fits(Cart one, int load, long hold, int t) {
            if ((hold & floor.barred) != 0) {
                return false;
            }
            boolean under = one.kind == LIFTER && load < 0;
            for (int i = 0; i < traffic.shelfCount && !under; i++) {
                int square = foreign[i] ? traffic.shelfAt(i, t) : places[i];
                if (i != load && (hold & bit(square)) != 0) {
                    return false;
                }
            }
            return true;
        }

        private void carry(int load, int square) {
            if (load >= 0 && load < traffic.shelfCount) {
                places[load] = square;
            }
        }
    }

    /**
     * The least sum of ENDS of two or three carts that move at once. A state is the seats of all three,
     * a seat being one of at most 20 squares that are not BARRED, or DONE: at the END SQUARE for good.
     * States wait by their sum so far and the sum of what each cart alone has to go at least; a tick adds
     * at most 6 to that, so that eight rings (chains that close) are enough for all that wait.
     */
    static final class Trio {
        static final int SEATS = 20;
        private static final int DONE = 20;
        private static final int BASE = 21;
        private static final int ALL = BASE * BASE * BASE;
        private static final int RINGS = 8;

        final Floor floor;
        final Traffic traffic;
        final int[] squares = new int[SEATS];
        final int[] steps = new int[3 * 5 * BASE];
        final int[] toGo = new int[3 * BASE];
        final int[] goals = new int[3];
        final int[] seats = new int[3];
        final int[] sums = new int[ALL];
        final int[] nexts = new int[ALL + RINGS];
        final int[] priors = new int[ALL + RINGS];
        int seatCount = 0;

        Trio(Floor floor, Traffic traffic) {
            this.floor = floor;
            this.traffic = traffic;
        }

        int leastSum(int a, int b, int c) {
            findSeats();
            long stood = stoodByOthers(a, b, c);
            int start = prepare(0, a, stood) + BASE * prepare(1, b, stood) + BASE * BASE * prepare(2, c, stood);
            clear();
            int far = farFrom(start);
            if (far >= FAR) {
                return NONE;
            }
            sums[start] = 0;
            enter(start, far);
            int empty = 0;
            for (int least = far; least < FAR && empty < RINGS; least++) {
                empty++;
                int head = ALL + least % RINGS;
                for (int n = 0; n < ALL && nexts[head] != head; n++) {
                    int state = nexts[head];
                    empty = 0;
                    if (state == ALL - 1) {
                        return sums[state];
                    }
                    leave(state);
                    expand(state);
                }
            }
            return NONE;
        }

        private void findSeats() {
            seatCount = 0;
            for (int square = 0; square < SQUARES; square++) {
                if ((floor.all & ~floor.barred & bit(square)) != 0 && seatCount < SEATS) {
                    squares[seatCount] = square;
                    seatCount++;
                }
            }
        }

        private int seatOf(int square) {
            for (int i = 0; i < seatCount; i++) {
                if (squares[i] == square) {
                    return i;
                }
            }
            return NONE;
        }

        private long stoodByOthers(int a, int b, int c) {
            long mask = 0;
            for (int i = 0; i < traffic.cartCount; i++) {
                if (i != a && i != b && i != c) {
                    mask |= traffic.carts[i].stands[0];
                }
            }
            return mask;
        }

        /** Finds a cart's steps and what it has to go from each seat: its seat at tick 0. */
        private int prepare(int which, int c, long stood) {
            Cart one = traffic.cartOf(c);
            goals[which] = NONE;
            Arrays.fill(steps, which * 5 * BASE, (which + 1) * 5 * BASE, NONE);
            Arrays.fill(toGo, which * BASE, (which + 1) * BASE, FAR);
            toGo[which * BASE + DONE] = 0;
            if (one == null) {
                return DONE;
            }
            long open = floor.all & ~floor.barred & ~stood;
            if (one.kind != LIFTER) {
                open &= ~traffic.shelfMask(0, NONE);
            }
            goals[which] = seatOf(one.goal);
            for (int i = 0; i < seatCount; i++) {
                steps[(which * BASE + i) * 5] = i;
                for (int move = 1; move <= LAST_STEP; move++) {
                    int state = floor.moved[move * STATES + squares[i]];
                    int square = state < 0 ? NONE : squareOf(state);
                    steps[(which * BASE + i) * 5 + move] = (bit(square) & open) != 0 ? seatOf(square) : NONE;
                }
            }
            findToGo(which, bit(one.goal) & open, open);
            return Math.max(0, seatOf(squareOf(one.first)));
        }

        private void findToGo(int which, long goal, long open) {
            long reached = goal;
            for (int n = 0; n < SQUARES; n++) {
                for (int i = 0; i < seatCount; i++) {
                    int place = which * BASE + i;
                    if ((reached & bit(squares[i])) != 0 && toGo[place] == FAR) {
                        toGo[place] = n;
                    }
                }
                reached = floor.spread(reached) & open;
            }
        }

        private void clear() {
            Arrays.fill(sums, FAR);
            for (int i = 0; i < RINGS; i++) {
                nexts[ALL + i] = ALL + i;
                priors[ALL + i] = ALL + i;
            }
        }

        private int seatIn(int state, int which) {
            int rest = which == 0 ? state : which == 1 ? state / BASE : state / (BASE * BASE);
            return rest % BASE;
        }

        private int farFrom(int state) {
            int far = 0;
            for (int which = 0; which < 3; which++) {
                far += toGo[which * BASE + seatIn(state, which)];
            }
            return far;
        }

        private void enter(int state, int rank) {
            int head = ALL + rank % RINGS;
            nexts[state] = nexts[head];
            priors[state] = head;
            priors[nexts[head]] = state;
            nexts[head] = state;
        }

        private void leave(int state) {
            nexts[priors[state]] = nexts[state];
            priors[nexts[state]] = priors[state];
        }

        private void expand(int state) {
            int waiting = 0;
            int power = 1;
            for (int which = 0; which < 3; which++) {
                seats[which] = seatIn(state, which);
                if (seats[which] == goals[which]) {
                    offer(state + (DONE - seats[which]) * power, sums[state]);
                }
                waiting += seats[which] == DONE ? 0 : 1;
                power *= BASE;
            }
            for (int i = 0; i < 5; i++) {
                int first = stepOf(0, i);
                for (int j = 0; j < 5 && first >= 0; j++) {
                    int second = stepOf(1, j);
                    if (second >= 0 && !collide(0, first, 1, second)) {
                        expandThird(first, second, sums[state] + waiting);
                    }
                }
            }
        }

        private void expandThird(int first, int second, int sum) {
            for (int k = 0; k < 5; k++) {
                int third = stepOf(2, k);
                if (third >= 0 && !collide(0, first, 2, third) && !collide(1, second, 2, third)) {
                    offer(first + BASE * second + BASE * BASE * third, sum);
                }
            }
        }

        private int stepOf(int which, int step) {
            if (seats[which] == DONE) {
                return step == 0 ? DONE : NONE;
            }
            return steps[(which * BASE + seats[which]) * 5 + step];
        }

        private boolean collide(int one, int next, int other, int otherNext) {
            int a0 = placeOf(one, seats[one]);
            int a1 = placeOf(one, next);
            int b0 = placeOf(other, seats[other]);
            int b1 = placeOf(other, otherNext);
            return a1 >= 0 && b1 >= 0 && (a1 == b1 || a0 == b1 && a1 == b0);
        }

        private int placeOf(int which, int seat) {
            return seat == DONE ? goals[which] : seat;
        }

        private void offer(int state, int sum) {
            if (sum >= sums[state]) {
                return;
            }
            if (sums[state] < FAR) {
                leave(state);
            }
            sums[state] = sum;
            enter(state, sum + farFrom(state));
        }
    }

    /** The MARKS of all squares; those of a row that is MISSING are 0 and not looked at. */
    static final class Marks {
        final Floor floor;
        final byte[] values = new byte[SQUARES];

        Marks(Floor floor) {
            this.floor = floor;
        }

        void lose(int y) {
            Arrays.fill(values, y * floor.width, (y + 1) * floor.width, (byte) 0);
        }

        void bring(int from, int to, int n) {
            System.arraycopy(values, from, values, to, n);
        }

        int sumOf(int y) {
            int sum = 0;
            for (int x = 0; x < floor.width; x++) {
                sum += values[y * floor.width + x];
            }
            return sum;
        }
    }

    /** The HOOKS and what hangs on each. */
    static final class Hooks {
        static final int EMPTY = 0;
        static final int CART = 1;
        static final int SHELF = 2;
        private static final int HOOKS = 10;

        final int[] sorts = new int[HOOKS];
        final int[] numbers = new int[HOOKS];

        boolean hasHook(int k) {
            return k >= 0 && k < HOOKS;
        }

        int put(int k, int sort, int n) {
            int before = sorts[k];
            sorts[k] = sort;
            numbers[k] = n;
            return before;
        }
    }

    /** The LINE; its length is NONE while there is none. */
    static final class Line {
        static final int PLACES = 40;

        final Cart[] places = new Cart[PLACES];
        int kind = PLAIN;
        int length = NONE;

        void begin(int kind, int n) {
            this.kind = kind;
            this.length = n;
            for (int i = 0; i < PLACES; i++) {
                places[i] = null;
            }
        }

        int filled() {
            int n = 0;
            for (int i = 0; i < length; i++) {
                n += places[i] != null ? 1 : 0;
            }
            return n;
        }

        int sumOfEnds() {
            int sum = 0;
            for (int i = 0; i < length; i++) {
                Cart one = places[i];
                sum += one != null ? one.end : 0;
            }
            return sum;
        }
    }
}
