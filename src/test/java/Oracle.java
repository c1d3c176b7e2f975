import java.util.ArrayList;
import java.util.Arrays;
import java.util.HashMap;
import java.util.List;
import java.util.Map;
import java.util.PriorityQueue;

/** The document followed word by word, slowly and with none of CartFloor's ways of holding things. */
final class Oracle {
    static final int[] DX = {0, 1, 0, -1};
    static final int[] DY = {-1, 0, 1, 0};

    /** How many rounds the last stop() took; a run that never ends is cut there. */
    int rounds = 0;

    static final class Stance {
        final int x;
        final int y;
        final int heading;
        final int load;

        Stance(int x, int y, int heading, int load) {
            this.x = x;
            this.y = y;
            this.heading = heading;
            this.load = load;
        }

        long key() {
            return ((x * 8L + y) * 4 + heading) * 16 + load + 1;
        }
    }

    static final class Trolley {
        int kind;
        Stance start;
        List<Integer> way = new ArrayList<>();
        int endSquare = -1;
        int freight = -1;
        boolean planned = false;
        int fate = 0;

        boolean open() {
            return endSquare >= 0 && !planned && fate == 0;
        }

        int move(int t) {
            return t < way.size() ? way.get(t) : 0;
        }

        Trolley twin() {
            Trolley twin = new Trolley();
            twin.kind = kind;
            twin.start = start;
            twin.way = new ArrayList<>(way);
            twin.endSquare = endSquare;
            twin.freight = freight;
            twin.planned = planned;
            twin.fate = fate;
            return twin;
        }
    }

    /** What is where at one tick. */
    static final class Scene {
        Stance[] stances;
        int[] shelfSquares;
        boolean[] stuck;
    }

    final int width;
    final int height;
    final int[] ground;
    final boolean[] missing;
    final byte[] marks;
    List<Trolley> carts = new ArrayList<>();
    List<Integer> shelves = new ArrayList<>();
    List<Integer> told = new ArrayList<>();
    List<Scene> scenes = null;
    int day = 0;
    int earliest = 0;
    final int[] hookSort = new int[10];
    final int[] hookNumber = new int[10];
    int lineKind = 0;
    int[] places = null;

    Oracle(int width, int height) {
        this.width = Math.max(2, Math.min(8, width));
        this.height = Math.max(2, Math.min(8, height));
        ground = new int[this.width * this.height];
        marks = new byte[this.width * this.height];
        missing = new boolean[this.height];
    }

    boolean on(int x, int y) {
        return x >= 0 && x < width && y >= 0 && y < height;
    }

    int number(int x, int y) {
        return y * width + x;
    }

    boolean barred(int square) {
        return ground[square] == 1 || missing[square / width];
    }

    // ---- terms 1 and 2

    boolean onFloor(int kind, Stance s) {
        if (!on(s.x, s.y)) {
            return false;
        }
        return kind < 2 || on(s.x - DX[s.heading], s.y - DY[s.heading]);
    }

    List<Integer> stands(int kind, Stance s) {
        List<Integer> all = new ArrayList<>();
        all.add(number(s.x, s.y));
        if (kind >= 2) {
            all.add(number(s.x - DX[s.heading], s.y - DY[s.heading]));
        }
        return all;
    }

    /** The STANCE behind a move, null if it can't be made. */
    Stance make(int kind, Stance s, int move, int lying) {
        if (move == 0) {
            return s;
        }
        Stance next = null;
        if (kind < 2 && move <= 4) {
            next = new Stance(s.x + DX[move - 1], s.y + DY[move - 1], move - 1, s.load);
        } else if (kind == 1 && move == 5 && s.load < 0 && lying >= 0) {
            next = new Stance(s.x, s.y, s.heading, lying);
        } else if (kind == 1 && move == 6 && s.load >= 0 && ground[number(s.x, s.y)] == 2) {
            next = new Stance(s.x, s.y, s.heading, -1);
        } else if (kind >= 2 && move == 1) {
            next = new Stance(s.x + DX[s.heading], s.y + DY[s.heading], s.heading, -1);
        } else if (kind >= 2 && move == 2) {
            next = new Stance(s.x - DX[s.heading], s.y - DY[s.heading], s.heading, -1);
        } else if (kind >= 2 && (move == 3 || move == 4)) {
            int h = (s.heading + (move == 3 ? 3 : 1)) % 4;
            int bx = s.x - DX[s.heading];
            int by = s.y - DY[s.heading];
            if (!on(s.x + DX[h], s.y + DY[h])) {
                return null;
            }
            next = new Stance(bx + DX[h], by + DY[h], h, -1);
        }
        return next != null && onFloor(kind, next) ? next : null;
    }

    boolean turnOfFour(int kind, int move) {
        return kind >= 2 && (move == 3 || move == 4);
    }

    List<Integer> four(Stance before, Stance after) {
        List<Integer> all = new ArrayList<>();
        all.add(number(before.x - DX[before.heading], before.y - DY[before.heading]));
        all.add(number(before.x, before.y));
        all.add(number(after.x, after.y));
        all.add(number(before.x + DX[after.heading], before.y + DY[after.heading]));
        return all;
    }

    int lastTick() {
        int t = 0;
        for (Trolley c : carts) {
            t = Math.max(t, c.way.size());
        }
        return t + 2;
    }

    void changed() {
        scenes = null;
    }

    Scene scene(int t) {
        if (scenes == null) {
            run();
        }
        return scenes.get(Math.min(t, scenes.size() - 1));
    }

    void run() {
        scenes = new ArrayList<>();
        Scene now = new Scene();
        now.stances = new Stance[carts.size()];
        now.stuck = new boolean[carts.size()];
        now.shelfSquares = new int[shelves.size()];
        for (int i = 0; i < carts.size(); i++) {
            now.stances[i] = carts.get(i).start;
        }
        for (int i = 0; i < shelves.size(); i++) {
            now.shelfSquares[i] = shelves.get(i);
        }
        scenes.add(now);
        int last = lastTick();
        for (int t = 0; t < last; t++) {
            Scene next = new Scene();
            next.stances = new Stance[carts.size()];
            next.stuck = new boolean[carts.size()];
            next.shelfSquares = now.shelfSquares.clone();
            for (int i = 0; i < carts.size(); i++) {
                Stance s = now.stances[i];
                Stance made = make(carts.get(i).kind, s, carts.get(i).move(t), free(now, number(s.x, s.y)));
                now.stuck[i] = made == null;
                next.stances[i] = made == null ? s : made;
            }
            for (Stance s : next.stances) {
                if (s.load >= 0) {
                    next.shelfSquares[s.load] = number(s.x, s.y);
                }
            }
            scenes.add(next);
            now = next;
        }
    }

    /** A SHELF on a square that no cart carries. */
    int free(Scene scene, int square) {
        for (int i = 0; i < scene.shelfSquares.length; i++) {
            if (scene.shelfSquares[i] == square && !carried(scene, i)) {
                return i;
            }
        }
        return -1;
    }

    boolean carried(Scene scene, int shelf) {
        for (Stance s : scene.stances) {
            if (s.load == shelf) {
                return true;
            }
        }
        return false;
    }

    List<Integer> holds(int c, int t) {
        Trolley one = carts.get(c);
        List<Integer> all = stands(one.kind, scene(t).stances[c]);
        if (turnOfFour(one.kind, one.move(t)) && !scene(t).stuck[c]) {
            all.addAll(four(scene(t).stances[c], scene(t + 1).stances[c]));
        }
        if (t > 0 && turnOfFour(one.kind, one.move(t - 1)) && !scene(t - 1).stuck[c]) {
            all.addAll(four(scene(t - 1).stances[c], scene(t).stances[c]));
        }
        return all;
    }

    boolean fits(int kind, int load, List<Integer> held, int[] shelfSquares) {
        for (int square : held) {
            if (barred(square)) {
                return false;
            }
            if (kind == 1 && load < 0) {
                continue;
            }
            for (int i = 0; i < shelfSquares.length; i++) {
                if (i != load && shelfSquares[i] == square) {
                    return false;
                }
            }
        }
        return true;
    }

    static boolean share(List<Integer> a, List<Integer> b) {
        for (int r : a) {
            if (b.contains(r)) {
                return true;
            }
        }
        return false;
    }

    static boolean exchange(List<Integer> a0, List<Integer> a1, List<Integer> b0, List<Integer> b1) {
        for (int r : a0) {
            for (int s : a1) {
                if (r != s && b0.contains(s) && b1.contains(r)) {
                    return true;
                }
            }
        }
        return false;
    }

    boolean meets(int a, int b, int t) {
        if (share(holds(a, t), holds(b, t))) {
            return true;
        }
        int ka = carts.get(a).kind;
        int kb = carts.get(b).kind;
        return t > 0 && exchange(stands(ka, scene(t - 1).stances[a]), stands(ka, scene(t).stances[a]),
            stands(kb, scene(t - 1).stances[b]), stands(kb, scene(t).stances[b]));
    }

    /** The law at the end of term 2. */
    boolean lawful() {
        for (int t = 0; t <= lastTick(); t++) {
            for (int a = 0; a < carts.size(); a++) {
                Stance s = scene(t).stances[a];
                if (scene(t).stuck[a] || !fits(carts.get(a).kind, s.load, holds(a, t), scene(t).shelfSquares)) {
                    return false;
                }
                for (int b = 0; b < a; b++) {
                    if (meets(a, b, t)) {
                        return false;
                    }
                }
            }
        }
        return true;
    }

    // ---- term 3

    static final class Row {
        final Stance stance;
        final int turns;
        final int[] moves;

        Row(Stance stance, int turns, int[] moves) {
            this.stance = stance;
            this.turns = turns;
            this.moves = moves;
        }

        boolean better(Row other) {
            if (other == null || turns != other.turns) {
                return other == null || turns < other.turns;
            }
            return Arrays.compare(moves, other.moves) < 0;
        }
    }

    boolean clear(int c, int load, List<Integer> held, int t) {
        if (!fits(carts.get(c).kind, load, held, scene(t).shelfSquares)) {
            return false;
        }
        for (int b = 0; b < carts.size(); b++) {
            if (b != c && share(held, holds(b, t))) {
                return false;
            }
        }
        return true;
    }

    boolean clearForEver(int c, Stance s, int from) {
        for (int t = from; t <= Math.max(from, lastTick()); t++) {
            if (!clear(c, s.load, stands(carts.get(c).kind, s), t)) {
                return false;
            }
        }
        return true;
    }

    boolean stepClear(int c, Stance s, Stance next, int move, int t) {
        int kind = carts.get(c).kind;
        List<Integer> now = stands(kind, s);
        List<Integer> then = stands(kind, next);
        if (turnOfFour(kind, move)) {
            List<Integer> turn = four(s, next);
            if (!clear(c, s.load, turn, t) || !clear(c, s.load, turn, t + 1)) {
                return false;
            }
        }
        if (!clear(c, next.load, then, t + 1)) {
            return false;
        }
        for (int b = 0; b < carts.size(); b++) {
            int kb = carts.get(b).kind;
            if (b != c && exchange(now, then, stands(kb, scene(t).stances[b]), stands(kb, scene(t + 1).stances[b]))) {
                return false;
            }
        }
        return true;
    }

    boolean counts(int kind, Stance s, int move) {
        return kind >= 2 ? move >= 3 : move >= 1 && move <= 4 && move - 1 != s.heading;
    }

    /** The moves of a leg, null if there is none. The cart has no moves from tick from on. */
    Row go(int c, Stance start, int from, int goal, int wanted, boolean last) {
        Map<Long, Row> layer = new HashMap<>();
        int kind = carts.get(c).kind;
        List<Integer> held = kind >= 2 ? holds(c, from) : stands(kind, start);
        if (clear(c, start.load, held, from)) {
            layer.put(start.key(), new Row(start, 0, new int[0]));
        }
        for (int t = from; t <= 400; t++) {
            Row best = null;
            for (Row row : layer.values()) {
                if (arrived(c, row.stance, t, goal, wanted, last) && row.better(best)) {
                    best = row;
                }
            }
            if (best != null) {
                return best;
            }
            if (layer.isEmpty()) {
                return null;
            }
            layer = nextLayer(c, layer, t);
        }
        return null;
    }

    boolean arrived(int c, Stance s, int t, int goal, int wanted, boolean last) {
        if (number(s.x, s.y) != goal) {
            return false;
        }
        if (wanted >= 0 && (scene(t).shelfSquares[wanted] != goal || carried(scene(t), wanted))) {
            return false;
        }
        return !last || clearForEver(c, s, t);
    }

    Map<Long, Row> nextLayer(int c, Map<Long, Row> layer, int t) {
        Map<Long, Row> next = new HashMap<>();
        int kind = carts.get(c).kind;
        for (Row row : layer.values()) {
            for (int move = 0; move <= 4; move++) {
                Stance s = make(kind, row.stance, move, -1);
                if (s == null || !stepClear(c, row.stance, s, move, t)) {
                    continue;
                }
                int[] moves = Arrays.copyOf(row.moves, row.moves.length + 1);
                moves[row.moves.length] = move;
                Row longer = new Row(s, row.turns + (counts(kind, row.stance, move) ? 1 : 0), moves);
                if (longer.better(next.get(s.key()))) {
                    next.put(s.key(), longer);
                }
            }
        }
        return next;
    }

    boolean planFrom(int c, int k) {
        Trolley one = carts.get(c);
        Stance s = scene(k).stances[c];
        List<Integer> moves = new ArrayList<>();
        int tick = k;
        if (one.freight >= 0 && s.load != one.freight) {
            int place = scene(Integer.MAX_VALUE).shelfSquares[one.freight];
            Row row = go(c, s, tick, place, one.freight, false);
            if (row == null) {
                return false;
            }
            tick += row.moves.length;
            addAll(moves, row.moves);
            Stance lifted = new Stance(row.stance.x, row.stance.y, row.stance.heading, one.freight);
            if (tick + 1 > 400 || !stepClear(c, row.stance, lifted, 5, tick)) {
                return false;
            }
            moves.add(5);
            tick++;
            s = lifted;
        }
        Row row = go(c, s, tick, one.endSquare, -1, true);
        if (row == null) {
            return false;
        }
        addAll(moves, row.moves);
        tick += row.moves.length;
        if (one.freight >= 0) {
            Stance empty = new Stance(row.stance.x, row.stance.y, row.stance.heading, -1);
            if (tick + 1 > 400 || !stepClear(c, row.stance, empty, 6, tick)) {
                return false;
            }
            moves.add(6);
        }
        one.way.addAll(moves);
        one.planned = true;
        changed();
        return true;
    }

    static void addAll(List<Integer> moves, int[] more) {
        for (int move : more) {
            moves.add(move);
        }
    }

    // ---- the face

    boolean anyone() {
        return !carts.isEmpty() || !shelves.isEmpty();
    }

    boolean anyMove() {
        return carts.stream().anyMatch(c -> !c.way.isEmpty());
    }

    int lay(int x, int y, int g) {
        if (!on(x, y) || g < 0 || g > 3 || anyone()) {
            return -2;
        }
        int was = ground[number(x, y)];
        ground[number(x, y)] = g;
        return was;
    }

    int row(int y, boolean gone) {
        if (y < 0 || y >= height || anyone()) {
            return -2;
        }
        int was = missing[y] ? 1 : 0;
        missing[y] = gone;
        for (int x = 0; x < width && gone; x++) {
            marks[number(x, y)] = 0;
        }
        return was;
    }

    int shelf(int x, int y) {
        if (!on(x, y) || barred(number(x, y)) || ground[number(x, y)] != 2 || shelves.contains(number(x, y))) {
            return -2;
        }
        for (Trolley c : carts) {
            if (stands(c.kind, c.start).contains(number(x, y))) {
                return -2;
            }
        }
        if (anyMove() || shelves.size() == 12) {
            return -2;
        }
        shelves.add(number(x, y));
        changed();
        return shelves.size() - 1;
    }

    int cart(int kind, int x, int y, int heading) {
        if (kind < 0 || kind > 3 || !on(x, y) || heading < 0 || heading > 3 || anyMove() || carts.size() == 6) {
            return -2;
        }
        Stance s = new Stance(x, y, heading, -1);
        if (!onFloor(kind, s)) {
            return -2;
        }
        for (Trolley c : carts) {
            if (share(stands(c.kind, c.start), stands(kind, s))) {
                return -2;
            }
        }
        int[] lie = shelves.stream().mapToInt(i -> i).toArray();
        if (!fits(kind, -1, stands(kind, s), lie)) {
            return -2;
        }
        Trolley one = new Trolley();
        one.kind = kind;
        one.start = s;
        carts.add(one);
        changed();
        return carts.size() - 1;
    }

    boolean isCart(int c) {
        return c >= 0 && c < carts.size();
    }

    int errand(int c, int x, int y, int shelf) {
        if (!isCart(c)) {
            return -2;
        }
        Trolley one = carts.get(c);
        if (one.kind == 3 || one.endSquare >= 0 || one.fate != 0 || !on(x, y) || barred(number(x, y))) {
            return -2;
        }
        if (shelf != -1) {
            if (shelf < 0 || shelf >= shelves.size() || one.kind != 1 || ground[number(x, y)] != 2) {
                return -2;
            }
            for (Trolley other : carts) {
                if (other != one && (other.endSquare >= 0 && other.freight == shelf || other.start.load == shelf)) {
                    return -2;
                }
            }
            if (one.start.load >= 0 && one.start.load != shelf) {
                return -2;
            }
        }
        one.endSquare = number(x, y);
        one.freight = shelf;
        return 1;
    }

    int plan(int c) {
        if (!isCart(c) || !carts.get(c).open()) {
            return -2;
        }
        return planFrom(c, 0) ? carts.get(c).way.size() : -1;
    }

    int many() {
        int n = 0;
        for (int c = 0; c < carts.size(); c++) {
            if (carts.get(c).open() && planFrom(c, 0)) {
                n++;
            }
        }
        return n;
    }

    boolean troubled(int c, int k) {
        Trolley one = carts.get(c);
        if (one.fate != 0 || one.way.size() <= k) {
            return false;
        }
        for (int t = k; t <= lastTick(); t++) {
            if (scene(t).stuck[c]) {
                return true;
            }
        }
        for (int t = k + 1; t <= lastTick(); t++) {
            if (!fits(one.kind, scene(t).stances[c].load, holds(c, t), scene(t).shelfSquares)) {
                return true;
            }
            for (int b = 0; b < carts.size(); b++) {
                if (b != c && meets(c, b, t)) {
                    return true;
                }
            }
        }
        return false;
    }

    int firstTroubled(int k, boolean guests) {
        for (int c = 0; c < carts.size(); c++) {
            if ((carts.get(c).kind == 3) == guests && troubled(c, k)) {
                return c;
            }
        }
        return -1;
    }

    void cut(int c, int k) {
        List<Integer> way = carts.get(c).way;
        while (way.size() > k) {
            way.remove(way.size() - 1);
        }
        changed();
    }

    int stop(int c, int k) {
        if (!isCart(c) || carts.get(c).kind == 3 || carts.get(c).fate != 0 || k < 0 || k > 400 || k < earliest) {
            return -2;
        }
        List<Trolley> kept = new ArrayList<>();
        for (Trolley one : carts) {
            kept.add(one.twin());
        }
        cut(c, k);
        carts.get(c).fate = 1;
        int found = 0;
        rounds = 0;
        for (int b = firstTroubled(k, false); b >= 0 && rounds < 500; b = firstTroubled(k, false)) {
            rounds++;
            cut(b, k);
            if (planFrom(b, k)) {
                found++;
            } else {
                carts.get(b).fate = 2;
            }
        }
        if (firstTroubled(k, true) >= 0) {
            carts = kept;
            changed();
            return -3;
        }
        earliest = k;
        return found;
    }

    int dawn() {
        Scene end = scene(Integer.MAX_VALUE);
        for (int c = 0; c < carts.size(); c++) {
            Trolley next = new Trolley();
            next.kind = carts.get(c).kind;
            next.start = end.stances[c];
            carts.set(c, next);
        }
        for (int s = 0; s < shelves.size(); s++) {
            shelves.set(s, end.shelfSquares[s]);
        }
        changed();
        earliest = 0;
        return ++day;
    }

    int tell(int move, int times) {
        if (move < 0 || move > 6 || times < 1 || times > 400 || told.size() + times > 400) {
            return -2;
        }
        for (int i = 0; i < times; i++) {
            told.add(move);
        }
        return told.size();
    }

    int hush() {
        int had = told.size();
        told.clear();
        return had;
    }

    int check(int c) {
        if (!isCart(c)) {
            return -2;
        }
        Trolley one = carts.get(c);
        int n = shelves.size();
        boolean[] others = new boolean[n];
        for (int t = 0; t <= lastTick(); t++) {
            for (int b = 0; b < carts.size(); b++) {
                if (b != c && scene(t).stances[b].load >= 0) {
                    others[scene(t).stances[b].load] = true;
                }
            }
        }
        int last = Math.max(lastTick(), told.size()) + 3;
        int[] lie = shelves.stream().mapToInt(i -> i).toArray();
        Stance s = one.start;
        Stance before = null;
        List<Integer> swept = List.of();
        for (int t = 0; t <= last; t++) {
            for (int i = 0; i < n; i++) {
                if (others[i]) {
                    lie[i] = scene(t).shelfSquares[i];
                }
            }
            int move = t < told.size() ? told.get(t) : 0;
            int lying = -1;
            for (int i = 0; i < n; i++) {
                if (!others[i] && i != s.load && lie[i] == number(s.x, s.y)) {
                    lying = i;
                }
            }
            Stance next = make(one.kind, s, move, lying);
            List<Integer> held = stands(one.kind, s);
            held.addAll(swept);
            swept = List.of();
            if (next != null && turnOfFour(one.kind, move)) {
                swept = four(s, next);
                held.addAll(swept);
            }
            if (!fits(one.kind, s.load, held, lie)) {
                return -10 - t;
            }
            for (int b = 0; b < carts.size(); b++) {
                if (b == c) {
                    continue;
                }
                int kb = carts.get(b).kind;
                if (share(held, holds(b, t)) || t > 0 && exchange(stands(one.kind, before), stands(one.kind, s),
                    stands(kb, scene(t - 1).stances[b]), stands(kb, scene(t).stances[b]))) {
                    return -10 - t;
                }
            }
            if (next == null) {
                return -10 - (t + 1);
            }
            before = s;
            s = next;
            if (s.load >= 0) {
                lie[s.load] = number(s.x, s.y);
            }
        }
        return told.size();
    }

    int guest(int c) {
        if (!isCart(c) || carts.get(c).kind != 3 || !carts.get(c).way.isEmpty()) {
            return -2;
        }
        for (Trolley one : carts) {
            if (one.kind != 3 && !one.way.isEmpty()) {
                return -2;
            }
        }
        int answer = check(c);
        if (answer >= 0) {
            carts.get(c).way = new ArrayList<>(told);
            changed();
        }
        return answer;
    }

    int at(int c, int t, int what) {
        if (!isCart(c) || what < 0 || what > 3 || t < 0) {
            return -2;
        }
        Stance s = scene(t).stances[c];
        return what == 0 ? number(s.x, s.y) : what == 1 ? s.heading : what == 2 ? s.load : carts.get(c).move(t);
    }

    int shelved(int s, int t) {
        return s < 0 || s >= shelves.size() || t < 0 ? -2 : scene(t).shelfSquares[s];
    }

    int about(int c, int what) {
        if (!isCart(c) || what < 0 || what > 5) {
            return -2;
        }
        Trolley one = carts.get(c);
        int turns = 0;
        for (int t = 0; t < one.way.size(); t++) {
            turns += counts(one.kind, scene(t).stances[c], one.move(t)) ? 1 : 0;
        }
        return new int[] {one.kind, one.way.size(), turns, one.open() ? 1 : 0, one.fate, one.endSquare}[what];
    }

    int count(int what) {
        if (what < 0 || what > 8) {
            return -2;
        }
        int[] all = {carts.size(), shelves.size(), 0, 0, 0, 0, 0, 0, day};
        for (Trolley one : carts) {
            all[2] += one.endSquare >= 0 ? 1 : 0;
            all[3] += one.open() ? 1 : 0;
            all[4] += one.fate == 1 ? 1 : 0;
            all[5] += one.fate == 2 ? 1 : 0;
            all[6] += one.way.size();
            all[7] = Math.max(all[7], one.way.size());
        }
        return all[what];
    }

    long digest() {
        long sum = 0;
        for (Trolley one : carts) {
            for (int move : one.way) {
                sum = sum * 31 + (move + 1);
            }
        }
        return sum;
    }

    boolean safe() {
        for (Trolley one : carts) {
            if (one.kind > 1 || one.endSquare >= 0 && one.freight >= 0) {
                return false;
            }
            for (Trolley other : carts) {
                if (other == one || one.endSquare < 0) {
                    continue;
                }
                if (one.endSquare == other.endSquare || stands(other.kind, other.start).contains(one.endSquare)) {
                    return false;
                }
            }
        }
        for (Trolley one : carts) {
            if (one.endSquare >= 0 && !path(one, number(one.start.x, one.start.y), new boolean[width * height])) {
                return false;
            }
        }
        return true;
    }

    boolean path(Trolley one, int square, boolean[] seen) {
        if (seen[square] || barred(square) || shelves.contains(square)) {
            return false;
        }
        seen[square] = true;
        for (Trolley other : carts) {
            if (other != one && (other.endSquare == square || stands(other.kind, other.start).contains(square))) {
                return false;
            }
        }
        if (square == one.endSquare) {
            return true;
        }
        for (int d = 0; d < 4; d++) {
            int x = square % width + DX[d];
            int y = square / width + DY[d];
            if (on(x, y) && path(one, number(x, y), seen)) {
                return true;
            }
        }
        return false;
    }

    int few(int a, int b, int c) {
        int[] who = c == -1 ? new int[] {a, b} : new int[] {a, b, c};
        for (int i = 0; i < who.length; i++) {
            for (int j = 0; j < i; j++) {
                if (who[i] == who[j]) {
                    return -2;
                }
            }
            if (!isCart(who[i])) {
                return -2;
            }
            Trolley one = carts.get(who[i]);
            if (one.kind > 1 || one.start.load >= 0 || one.endSquare < 0 || one.freight >= 0) {
                return -2;
            }
        }
        int squares = 0;
        for (int i = 0; i < width * height; i++) {
            squares += barred(i) ? 0 : 1;
        }
        return squares > 20 ? -2 : leastSum(who);
    }

    /** Dijkstra over the squares of all, a cart that has ended being its square and 64 more. */
    int leastSum(int[] who) {
        boolean[] stood = new boolean[64];
        for (int i = 0; i < carts.size(); i++) {
            int at = i;
            if (Arrays.stream(who).noneMatch(w -> w == at)) {
                for (int square : stands(carts.get(i).kind, carts.get(i).start)) {
                    stood[square] = true;
                }
            }
        }
        int[] start = new int[who.length];
        for (int i = 0; i < who.length; i++) {
            Stance s = carts.get(who[i]).start;
            start[i] = number(s.x, s.y);
        }
        Map<List<Integer>, Integer> best = new HashMap<>();
        PriorityQueue<int[]> queue = new PriorityQueue<>((p, q) -> p[who.length] - q[who.length]);
        queue.add(Arrays.copyOf(start, who.length + 1));
        while (!queue.isEmpty()) {
            int[] state = queue.remove();
            int sum = state[who.length];
            List<Integer> key = new ArrayList<>();
            int waiting = 0;
            for (int i = 0; i < who.length; i++) {
                key.add(state[i]);
                waiting += state[i] < 64 ? 1 : 0;
            }
            if (best.containsKey(key)) {
                continue;
            }
            best.put(key, sum);
            if (waiting == 0) {
                return sum;
            }
            for (int i = 0; i < who.length; i++) {
                if (state[i] == carts.get(who[i]).endSquare) {
                    int[] ended = state.clone();
                    ended[i] += 64;
                    queue.add(ended);
                }
            }
            spread(who, stood, state, new int[who.length + 1], 0, sum + waiting, queue);
        }
        return -1;
    }

    void spread(int[] who, boolean[] stood, int[] state, int[] next, int i, int sum, PriorityQueue<int[]> queue) {
        if (i == who.length) {
            next[i] = sum;
            queue.add(next.clone());
            return;
        }
        for (int move = 0; move <= (state[i] < 64 ? 4 : 0); move++) {
            int square = state[i] % 64;
            if (move > 0) {
                int x = square % width + DX[move - 1];
                int y = square / width + DY[move - 1];
                if (!on(x, y) || barred(number(x, y)) || stood[number(x, y)]) {
                    continue;
                }
                square = number(x, y);
                if (carts.get(who[i]).kind == 0 && shelves.contains(square)) {
                    continue;
                }
            }
            boolean free = true;
            for (int j = 0; j < i; j++) {
                int there = next[j] % 64;
                free &= there != square && !(there == state[i] % 64 && square == state[j] % 64);
            }
            if (free) {
                next[i] = move == 0 ? state[i] : square;
                spread(who, stood, state, next, i + 1, sum, queue);
            }
        }
    }

    int hang(int k, int sort, int n) {
        if (sort < 0 || sort > 2) {
            return -2;
        }
        if (k < 0 || k > 9) {
            return -11;
        }
        if (sort == 1 && !isCart(n) || sort == 2 && (n < 0 || n >= shelves.size())) {
            return -10;
        }
        int was = hookSort[k];
        hookSort[k] = sort;
        hookNumber[k] = n;
        return was;
    }

    int take(int k, int kind) {
        if (kind < 0 || kind > 4) {
            return -2;
        }
        if (k < 0 || k > 9) {
            return -11;
        }
        if (hookSort[k] == 0) {
            return -10;
        }
        boolean ok = kind == 4 ? hookSort[k] == 2 : hookSort[k] == 1 && carts.get(hookNumber[k]).kind >= kind;
        return ok ? hookNumber[k] : -12;
    }

    int weight(int k) {
        if (k < 0 || k > 9) {
            return -11;
        }
        if (hookSort[k] == 0) {
            return -10;
        }
        if (hookSort[k] == 2) {
            return 5 + hookNumber[k];
        }
        int kind = carts.get(hookNumber[k]).kind;
        int load = scene(Integer.MAX_VALUE).stances[hookNumber[k]].load;
        return new int[] {10, 15 + (load < 0 ? 0 : 5 + load), 30, 12}[kind];
    }

    int mark(int x, int y, int v) {
        if (y < 0 || y >= height) {
            return -11;
        }
        if (missing[y]) {
            return -10;
        }
        if (x < 0 || x >= width) {
            return -11;
        }
        int was = marks[number(x, y)];
        marks[number(x, y)] = (byte) (v & 255);
        return was + 1000;
    }

    int copy(int y, int x, int other, int place, int n) {
        if (y < 0 || y >= height || other < 0 || other >= height) {
            return -11;
        }
        if (missing[y] || missing[other]) {
            return -10;
        }
        if (x < 0 || place < 0 || n < 0 || (long) x + n > width || (long) place + n > width) {
            return -11;
        }
        byte[] was = marks.clone();
        int sum = 10000;
        for (int i = 0; i < n; i++) {
            marks[number(place + i, other)] = was[number(x + i, y)];
        }
        for (int i = 0; i < width; i++) {
            sum += marks[number(i, other)];
        }
        return sum;
    }

    int line(int kind, int n) {
        if (kind < 0 || kind > 3 || n > 40) {
            return -2;
        }
        if (n < 0) {
            return -13;
        }
        lineKind = kind;
        places = new int[n];
        Arrays.fill(places, -1);
        return n;
    }

    int slot(int i, int c) {
        if (!isCart(c)) {
            return -2;
        }
        if (places == null) {
            return -10;
        }
        if (i < 0 || i >= places.length) {
            return -11;
        }
        if (carts.get(c).kind < lineKind) {
            return -14;
        }
        places[i] = c;
        return (int) Arrays.stream(places).filter(p -> p >= 0).count();
    }

    int mean(int n) {
        if (places == null) {
            return -10;
        }
        if (n == 0) {
            return -15;
        }
        int sum = 0;
        for (int p : places) {
            sum += p < 0 ? 0 : carts.get(p).way.size();
        }
        return sum / n;
    }
}
