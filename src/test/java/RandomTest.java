import java.util.ArrayList;
import java.util.List;
import java.util.Random;

/**
 * Runs of random calls on CartFloor and on Oracle; every answer must be the same, and what all WAYS
 * together must be (term 2) must hold behind every call. Arguments: how many runs, the first seed.
 */
public final class RandomTest {
    private static final int MIXED = 0;
    private static final int LIFTERS = 1;
    private static final int LONGS = 2;
    private static final int FEW = 3;
    private static final int[][] KINDS = {
        {0, 0, 0, 1, 1, 1, 1, 2, 2, 3}, {0, 1, 1, 1, 1, 1, 1, 1, 1, 3}, {0, 1, 2, 2, 2, 2, 2, 2, 3, 3},
        {0, 0, 0, 0, 0, 1, 1, 1, 1, 2}};
    private static int wrong = 0;
    static int mostRounds = 0;
    static final int[] TALLY = new int[13];

    private final Random random;
    private final CartFloor floor;
    private final Oracle oracle;
    private final int width;
    private final int height;
    private final List<String> calls = new ArrayList<>();
    private final int theme;
    private boolean failed = false;
    private boolean endless = false;

    private RandomTest(long seed) {
        random = new Random(seed);
        theme = (int) (seed & 3);
        int w = size();
        int h = size();
        floor = new CartFloor(w, h);
        oracle = new Oracle(w, h);
        width = oracle.width;
        height = oracle.height;
        calls.add("new CartFloor(" + w + ", " + h + ")");
    }

    private int size() {
        if (random.nextInt(12) == 0) {
            return random.nextInt(12) - 1;
        }
        if (theme == FEW) {
            return 2 + random.nextInt(4);
        }
        return 2 + random.nextInt(random.nextInt(3) == 0 ? 7 : 4) + (theme == MIXED ? 0 : random.nextInt(2));
    }

    public static void main(String[] args) {
        int runs = args.length > 0 ? Integer.parseInt(args[0]) : 120;
        long first = args.length > 1 ? Long.parseLong(args[1]) : 1;
        int cut = 0;
        for (int i = 0; i < runs && wrong < 5; i++) {
            RandomTest run = new RandomTest(first + i);
            run.go(first + i);
            cut += run.endless ? 1 : 0;
        }
        System.out.println(runs + " runs, " + cut + " cut short, most rounds of a stop " + mostRounds
            + ", plans found/none " + TALLY[0] + "/" + TALLY[1] + ", stops refused/guest/0/more " + TALLY[2] + "/"
            + TALLY[3] + "/" + TALLY[4] + "/" + TALLY[5] + ", stranded " + TALLY[6] + ", checks right/not " + TALLY[7]
            + "/" + TALLY[8] + ", few found/none " + TALLY[9] + "/" + TALLY[10] + ", safe days " + TALLY[11]);
        System.out.println(wrong == 0 ? "all answers are as due" : wrong + " runs are not as due");
        if (wrong != 0) {
            System.exit(1);
        }
    }

    private void due(String call, long got, long want) {
        calls.add(call + " = " + want);
        if (got != want && !failed) {
            failed = true;
            wrong++;
            System.out.println("answered " + got + " by the last call of");
            calls.forEach(one -> System.out.println("  " + one));
        }
    }

    private void go(long seed) {
        calls.add("seed " + seed);
        layFloor();
        int n = 4 + random.nextInt(12);
        for (int i = 0; i < n && !failed && !endless; i++) {
            if (random.nextInt(3) > 0) {
                day();
            }
            for (int j = 0; j < 4 && !failed && !endless; j++) {
                act();
            }
            if (random.nextInt(6) == 0) {
                noise();
                compareUnlessFailed();
            }
        }
    }

    /** A whole day as it should be: guests first, then errands for most, plans, stops. */
    private void day() {
        due("dawn()", floor.dawn(), oracle.dawn());
        for (int c = 0; c < oracle.carts.size(); c++) {
            if (oracle.carts.get(c).kind == 3 && random.nextInt(4) > 0) {
                wander(c);
            }
        }
        for (int i = 0; i < 3 * oracle.carts.size(); i++) {
            errand();
        }
        for (int i = 0; i < 3 && random.nextInt(3) == 0; i++) {
            plan();
        }
        for (int i = 0; i < 3 && theme == FEW; i++) {
            few();
        }
        int safe = isSafeAndNew() ? oracle.count(2) : -1;
        int want = oracle.many();
        TALLY[0] += want;
        due("many()", floor.many(), want);
        if (safe >= 0) {
            TALLY[11] += safe > 0 ? 1 : 0;
            due("20: as safe() promises, many()", want, safe);
        }
        compareUnlessFailed();
        for (int i = 0; i < 3 && random.nextInt(3) > 0 && !failed && !endless; i++) {
            stop();
            compareUnlessFailed();
        }
    }

    /** Whether safe() promises that many() finds a PLAN for each ERRAND. */
    private boolean isSafeAndNew() {
        if (!floor.safe() || oracle.count(3) != oracle.count(2) || oracle.count(4) + oracle.count(5) > 0) {
            return false;
        }
        for (int c = 0; c < oracle.carts.size(); c++) {
            if (oracle.about(c, 1) > 0 || oracle.at(c, 0, 2) >= 0) {
                return false;
            }
        }
        return true;
    }

    /** A way for a guest that is right, step by step. */
    private void wander(int c) {
        due("hush()", floor.hush(), oracle.hush());
        int n = 1 + random.nextInt(random.nextInt(3) == 0 ? 60 : 12);
        List<Integer> good = new ArrayList<>();
        if (random.nextInt(8) == 0) {
            int wait = 340 + random.nextInt(61);
            due("tell(0, " + wait + ")", floor.tell(0, wait), oracle.tell(0, wait));
        }
        int waited = oracle.told.size();
        for (int i = 0; i < n; i++) {
            int move = random.nextInt(5);
            if (oracle.tell(move, 1) > 0) {
                if (oracle.check(c) >= 0) {
                    good.add(move);
                } else {
                    oracle.told.remove(oracle.told.size() - 1);
                }
            }
        }
        oracle.told.subList(waited, oracle.told.size()).clear();
        for (int move : good) {
            due("tell(" + move + ", 1)", floor.tell(move, 1), oracle.tell(move, 1));
        }
        due("guest(" + c + ")", floor.guest(c), oracle.guest(c));
    }

    private int odd() {
        int[] edges = {Integer.MIN_VALUE, Integer.MAX_VALUE, -1, 0, 1, 2, 3, 7, 8, 9, 10, 40, 41, 400, 401, 402};
        return random.nextInt(8) == 0 ? random.nextInt() : edges[random.nextInt(edges.length)];
    }

    /** Every call once, with arguments at and far behind all edges. */
    private void noise() {
        int a = odd();
        int b = odd();
        int c = odd();
        int d = odd();
        int e = odd();
        String told = "(" + a + ", " + b + ", " + c + ", " + d + ", " + e + ") as far as it takes";
        due("lay" + told, floor.lay(a, b, c), oracle.lay(a, b, c));
        due("row" + told, floor.row(a, b > 0), oracle.row(a, b > 0));
        due("shelf" + told, floor.shelf(a, b), oracle.shelf(a, b));
        due("cart" + told, floor.cart(a, b, c, d), oracle.cart(a, b, c, d));
        due("errand" + told, floor.errand(a, b, c, d), oracle.errand(a, b, c, d));
        due("plan" + told, floor.plan(a), oracle.plan(a));
        due("stop" + told, floor.stop(a, b), oracle.stop(a, b));
        due("tell" + told, floor.tell(a, b), oracle.tell(a, b));
        due("check" + told, floor.check(a), oracle.check(a));
        due("guest" + told, floor.guest(a), oracle.guest(a));
        due("at" + told, floor.at(a, b, c), oracle.at(a, b, c));
        due("shelved" + told, floor.shelved(a, b), oracle.shelved(a, b));
        due("about" + told, floor.about(a, b), oracle.about(a, b));
        due("count" + told, floor.count(a), oracle.count(a));
        due("few" + told, floor.few(a, b, c), oracle.few(a, b, c));
        due("hang" + told, floor.hang(a, b, c), oracle.hang(a, b, c));
        due("take" + told, floor.take(a, b), oracle.take(a, b));
        due("weight" + told, floor.weight(a), oracle.weight(a));
        due("mark" + told, floor.mark(a, b, c), oracle.mark(a, b, c));
        due("copy" + told, floor.copy(a, b, c, d, e), oracle.copy(a, b, c, d, e));
        due("line" + told, floor.line(a, b), oracle.line(a, b));
        due("slot" + told, floor.slot(a, b), oracle.slot(a, b));
        due("mean" + told, floor.mean(a), oracle.mean(a));
    }

    private void compareUnlessFailed() {
        if (!failed && !endless) {
            compare();
        }
    }

    private int x() {
        return random.nextInt(25) == 0 ? random.nextInt(12) - 2 : random.nextInt(width);
    }

    private int y() {
        return random.nextInt(25) == 0 ? random.nextInt(12) - 2 : random.nextInt(height);
    }

    private int cartNumber() {
        int n = oracle.carts.size();
        return n == 0 || random.nextInt(30) == 0 ? random.nextInt(9) - 2 : random.nextInt(n);
    }

    private int shelfNumber() {
        int n = oracle.shelves.size();
        return n == 0 || random.nextInt(30) == 0 ? random.nextInt(15) - 2 : random.nextInt(n);
    }

    private void layFloor() {
        int walls = random.nextInt(width * height / 3 + 1);
        for (int i = 0; i < walls; i++) {
            lay(random.nextInt(4) == 0 ? 3 : 1);
        }
        int places = theme == LIFTERS ? 6 + random.nextInt(16) : random.nextInt(3) == 0 ? 0 : random.nextInt(14);
        for (int i = 0; i < places; i++) {
            lay(2);
        }
        if (random.nextInt(6) == 0) {
            row();
        }
        for (int i = 0; i < 6 && random.nextInt(3) == 0; i++) {
            marks();
        }
        int shelves = places == 0 ? 0 : random.nextInt(places + 1);
        for (int i = 0; i < shelves * 3; i++) {
            shelf();
        }
        int carts = 2 + random.nextInt(10);
        for (int i = 0; i < carts; i++) {
            cart();
        }
    }

    private void act() {
        int pick = random.nextInt(100);
        if (pick < 22) {
            errand();
        } else if (pick < 32) {
            plan();
        } else if (pick < 38) {
            due("many()", floor.many(), oracle.many());
        } else if (pick < 50) {
            stop();
        } else if (pick < 56) {
            due("dawn()", floor.dawn(), oracle.dawn());
        } else if (pick < 72) {
            tellAndCheck();
        } else if (pick < (theme == FEW ? 79 : 76)) {
            few();
        } else if (pick < 82) {
            due("safe()", floor.safe() ? 1 : 0, oracle.safe() ? 1 : 0);
        } else if (pick < 84) {
            cart();
        } else if (pick < 86) {
            shelf();
        } else if (pick < 87) {
            lay(random.nextInt(6) - 1);
        } else if (pick < 88) {
            row();
        } else if (pick < 92) {
            marks();
        } else if (pick < 96) {
            hooks();
        } else {
            line();
        }
        compareUnlessFailed();
    }

    private void lay(int ground) {
        int x = x();
        int y = y();
        due("lay(" + x + ", " + y + ", " + ground + ")", floor.lay(x, y, ground), oracle.lay(x, y, ground));
    }

    private void row() {
        int y = y();
        boolean gone = random.nextInt(3) > 0;
        due("row(" + y + ", " + gone + ")", floor.row(y, gone), oracle.row(y, gone));
    }

    private void shelf() {
        int x = x();
        int y = y();
        due("shelf(" + x + ", " + y + ")", floor.shelf(x, y), oracle.shelf(x, y));
    }

    private void cart() {
        int kind = random.nextInt(20) == 0 ? random.nextInt(6) - 1 : KINDS[theme][random.nextInt(10)];
        int heading = random.nextInt(20) == 0 ? random.nextInt(7) - 2 : random.nextInt(4);
        int x = x();
        int y = y();
        due("cart(" + kind + ", " + x + ", " + y + ", " + heading + ")", floor.cart(kind, x, y, heading),
            oracle.cart(kind, x, y, heading));
    }

    private void errand() {
        int c = cartNumber();
        int x = x();
        int y = y();
        int s = -1;
        boolean lifter = oracle.isCart(c) && oracle.carts.get(c).kind == 1;
        if (random.nextInt(lifter ? 4 : 20) > (lifter ? 0 : 18)) {
            s = shelfNumber();
            for (int i = 0; i < 60 && random.nextInt(30) > 0; i++) {
                x = random.nextInt(width);
                y = random.nextInt(height);
                if (oracle.ground[oracle.number(x, y)] == 2) {
                    break;
                }
            }
            if (lifter && oracle.carts.get(c).start.load >= 0 && random.nextInt(4) > 0) {
                s = oracle.carts.get(c).start.load;
            }
        }
        due("errand(" + c + ", " + x + ", " + y + ", " + s + ")", floor.errand(c, x, y, s), oracle.errand(c, x, y, s));
    }

    private void plan() {
        int c = cartNumber();
        int want = oracle.plan(c);
        TALLY[want >= 0 ? 0 : want == -1 ? 1 : 12]++;
        due("plan(" + c + ")", floor.plan(c), want);
    }

    private void stop() {
        int c = cartNumber();
        int k = random.nextInt(20) == 0 ? random.nextInt(500) - 50 : random.nextInt(oracle.count(7) + 1);
        for (int i = 0; i < 6 && random.nextInt(12) > 0; i++) {
            c = cartNumber();
            int left = oracle.isCart(c) && oracle.carts.get(c).fate == 0 ? oracle.about(c, 1) - oracle.earliest : 0;
            if (left > 0) {
                k = oracle.earliest + random.nextInt(left);
                break;
            }
        }
        int before = oracle.count(5);
        int want = oracle.stop(c, k);
        mostRounds = Math.max(mostRounds, oracle.rounds);
        TALLY[want == -2 ? 2 : want == -3 ? 3 : want == 0 ? 4 : 5]++;
        TALLY[6] += oracle.count(5) - before;
        if (want != -2 && oracle.rounds >= 500) {
            endless = true;
            floor.stop(c, k);
            return;
        }
        due("stop(" + c + ", " + k + ")", floor.stop(c, k), want);
    }

    private void tellAndCheck() {
        if (random.nextInt(3) == 0) {
            due("hush()", floor.hush(), oracle.hush());
        }
        int n = random.nextInt(6);
        int c = cartNumber();
        int guests = 0;
        for (int i = 0; i < oracle.carts.size(); i++) {
            if (oracle.carts.get(i).kind == 3 && random.nextInt(++guests) == 0 && random.nextInt(3) > 0) {
                c = i;
            }
        }
        for (int i = 0; i < n; i++) {
            int move = random.nextInt(15) == 0 ? random.nextInt(10) - 1 : random.nextInt(5);
            int times = random.nextInt(30) == 0 ? random.nextInt(500) - 20 : 1 + random.nextInt(2);
            if (i > 0 && random.nextInt(3) == 0 && oracle.isCart(c) && oracle.carts.get(c).kind == 1) {
                move = 5 + random.nextInt(2);
            }
            due("tell(" + move + ", " + times + ")", floor.tell(move, times), oracle.tell(move, times));
            if (oracle.check(c) < 0 && random.nextInt(3) > 0) {
                backTo(oracle.told.size() - Math.max(0, times));
            }
        }
        int want = oracle.check(c);
        TALLY[want >= 0 ? 7 : 8]++;
        due("check(" + c + ")", floor.check(c), want);
        if (random.nextInt(2) == 0) {
            due("guest(" + c + ")", floor.guest(c), oracle.guest(c));
        }
        if (random.nextInt(12) == 0) {
            tellOwnWay(c);
        }
    }

    /** The TOLD row again, but only its first moves. */
    private void backTo(int n) {
        List<Integer> moves = new ArrayList<>(oracle.told.subList(0, Math.max(0, Math.min(n, oracle.told.size()))));
        due("hush()", floor.hush(), oracle.hush());
        for (int move : moves) {
            due("tell(" + move + ", 1)", floor.tell(move, 1), oracle.tell(move, 1));
        }
    }

    /** A cart's own WAY, perhaps with one move changed, tells check() of lifting and letting down. */
    private void tellOwnWay(int c) {
        if (!oracle.isCart(c)) {
            return;
        }
        due("hush()", floor.hush(), oracle.hush());
        int changed = random.nextInt(20);
        List<Integer> way = new ArrayList<>(oracle.carts.get(c).way);
        for (int i = 0; i < way.size(); i++) {
            int move = i == changed ? random.nextInt(7) : way.get(i);
            due("tell(" + move + ", 1)", floor.tell(move, 1), oracle.tell(move, 1));
        }
        int want = oracle.check(c);
        TALLY[want >= 0 ? 7 : 8]++;
        due("check(" + c + ")", floor.check(c), want);
    }

    private void few() {
        int a = cartNumber();
        int b = cartNumber();
        int c = random.nextInt(3) == 0 ? -1 : cartNumber();
        int want = oracle.few(a, b, c);
        TALLY[want >= 0 ? 9 : want == -1 ? 10 : 12]++;
        due("few(" + a + ", " + b + ", " + c + ")", floor.few(a, b, c), want);
    }

    private void marks() {
        int y = y();
        int x = x();
        int v = random.nextInt(3) == 0 ? random.nextInt() : random.nextInt(300) - 150;
        due("mark(" + x + ", " + y + ", " + v + ")", floor.mark(x, y, v), oracle.mark(x, y, v));
        int other = random.nextBoolean() ? y : y();
        int from = x();
        int place = x();
        int n = random.nextInt(12) == 0 ? random.nextInt() : random.nextInt(width + 1);
        due("copy(" + y + ", " + from + ", " + other + ", " + place + ", " + n + ")",
            floor.copy(y, from, other, place, n), oracle.copy(y, from, other, place, n));
    }

    private void hooks() {
        int k = random.nextInt(12) - 1;
        int sort = random.nextInt(5) - 1;
        int n = sort == 2 ? shelfNumber() : cartNumber();
        due("hang(" + k + ", " + sort + ", " + n + ")", floor.hang(k, sort, n), oracle.hang(k, sort, n));
        int kind = random.nextInt(7) - 1;
        for (int i = -1; i <= 10; i++) {
            due("take(" + i + ", " + kind + ")", floor.take(i, kind), oracle.take(i, kind));
            due("weight(" + i + ")", floor.weight(i), oracle.weight(i));
        }
    }

    private void line() {
        if (random.nextInt(3) == 0) {
            int kind = random.nextInt(6) - 1;
            int n = random.nextInt(4) == 0 ? random.nextInt(60) - 10 : random.nextInt(5);
            due("line(" + kind + ", " + n + ")", floor.line(kind, n), oracle.line(kind, n));
        }
        int i = random.nextInt(6) - 1;
        int c = cartNumber();
        due("slot(" + i + ", " + c + ")", floor.slot(i, c), oracle.slot(i, c));
        int n = random.nextInt(7) - 3;
        due("mean(" + n + ")", floor.mean(n), oracle.mean(n));
    }

    private void compare() {
        int size = calls.size();
        for (int what = -1; what <= 9; what++) {
            due("count(" + what + ")", floor.count(what), oracle.count(what));
        }
        due("digest()", floor.digest(), oracle.digest());
        for (int c = -1; c <= oracle.carts.size(); c++) {
            for (int what = -1; what <= 6; what++) {
                due("about(" + c + ", " + what + ")", floor.about(c, what), oracle.about(c, what));
            }
            for (int what = -1; what <= 4; what++) {
                int t = random.nextInt(9) == 0 ? random.nextInt() : random.nextInt(oracle.count(7) + 4);
                due("at(" + c + ", " + t + ", " + what + ")", floor.at(c, t, what), oracle.at(c, t, what));
            }
        }
        for (int s = -1; s <= oracle.shelves.size(); s++) {
            int t = random.nextInt(9) == 0 ? random.nextInt() : random.nextInt(oracle.count(7) + 4);
            due("shelved(" + s + ", " + t + ")", floor.shelved(s, t), oracle.shelved(s, t));
        }
        due("the law of term 2", 1, oracle.lawful() ? 1 : 0);
        if (!failed) {
            calls.subList(size, calls.size()).clear();
        }
    }
}
