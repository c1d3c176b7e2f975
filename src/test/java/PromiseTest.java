/** Each promise of the document by its number: ordinary inputs, edges, and every reason to refuse. */
public final class PromiseTest {
    private static final int PLAIN = 0;
    private static final int LIFTER = 1;
    private static final int LONG = 2;
    private static final int GUEST = 3;
    private static final int NORTH = 0;
    private static final int EAST = 1;
    private static final int SOUTH = 2;
    private static final int WEST = 3;
    private static final int MIN = Integer.MIN_VALUE;
    private static final int MAX = Integer.MAX_VALUE;

    private static int wrong = 0;
    private static int asked = 0;

    private static void due(String what, long got, long want) {
        asked++;
        if (got != want) {
            wrong++;
            System.out.println(what + " answered " + got + ", due is " + want);
        }
    }

    private static void same(String what, String got, String want) {
        asked++;
        if (!got.equals(want)) {
            wrong++;
            System.out.println(what + " changed\n  " + want + "\nto\n  " + got);
        }
    }

    /** All that can be asked without changing anything. */
    private static String view(CartFloor x) {
        StringBuilder text = new StringBuilder();
        for (int what = 0; what <= 8; what++) {
            text.append(x.count(what)).append(' ');
        }
        text.append(x.digest()).append(' ').append(x.safe());
        for (int c = 0; c < x.count(0); c++) {
            text.append(" cart").append(c);
            for (int what = 0; what <= 5; what++) {
                text.append(' ').append(x.about(c, what));
            }
            for (int t = 0; t <= 12; t++) {
                text.append(' ').append(x.at(c, t, 0)).append('/').append(x.at(c, t, 1)).append('/')
                    .append(x.at(c, t, 2)).append('/').append(x.at(c, t, 3));
            }
            text.append(" checked ").append(x.check(c));
        }
        for (int s = 0; s < x.count(1); s++) {
            text.append(" shelf").append(s);
            for (int t = 0; t <= 12; t++) {
                text.append(' ').append(x.shelved(s, t));
            }
        }
        for (int k = 0; k <= 9; k++) {
            text.append(' ').append(x.weight(k)).append('/').append(x.take(k, 0)).append('/').append(x.take(k, 4));
        }
        return text.append(" line ").append(x.mean(1)).toString();
    }

    /** The moves of a cart's WAY as one number's digits. */
    private static String way(CartFloor x, int c) {
        StringBuilder text = new StringBuilder();
        for (int t = 0; t < x.about(c, 1); t++) {
            text.append(x.at(c, t, 3));
        }
        return text.toString();
    }

    private static void tellAll(CartFloor x, String moves) {
        x.hush();
        for (int i = 0; i < moves.length(); i++) {
            x.tell(moves.charAt(i) - '0', 1);
        }
    }

    public static void main(String[] args) {
        newObject();
        lay();
        row();
        shelf();
        cart();
        errand();
        errandWithShelf();
        planPlain();
        planTurns();
        planAround();
        planForGood();
        planLifter();
        planLifting();
        planLong();
        planGuestsTurn();
        planFourHundred();
        many();
        stopPlans();
        stopStrands();
        stopRefuses();
        stopGuest();
        stopCarrying();
        stopShelfStays();
        stopLong();
        dawn();
        tellHush();
        check();
        checkShelves();
        checkLong();
        guest();
        at();
        shelved();
        about();
        count();
        digest();
        safe();
        few();
        fewShelves();
        hang();
        take();
        weight();
        mark();
        copy();
        line();
        slot();
        mean();
        System.out.println(asked + " answers asked");
        System.out.println(wrong == 0 ? "all answers are as due" : wrong + " answers are not as due");
        if (wrong != 0) {
            System.exit(1);
        }
    }

    private static void sized(int width, int height, int dueWidth, int dueHeight) {
        String what = "1: new CartFloor(" + width + ", " + height + ")";
        due(what + " last square", new CartFloor(width, height).lay(dueWidth - 1, dueHeight - 1, 1), 0);
        due(what + " width", new CartFloor(width, height).lay(dueWidth, 0, 1), -2);
        due(what + " height", new CartFloor(width, height).lay(0, dueHeight, 1), -2);
    }

    private static void newObject() {
        sized(5, 3, 5, 3);
        sized(2, 8, 2, 8);
        sized(8, 2, 8, 2);
        sized(1, 9, 2, 8);
        sized(9, 1, 8, 2);
        sized(MIN, MAX, 2, 8);
        sized(MAX, -1, 8, 2);
        sized(0, 0, 2, 2);
        CartFloor x = new CartFloor(8, 8);
        for (int what = 0; what <= 8; what++) {
            due("1: count(" + what + ") of a new one", x.count(what), 0);
        }
        due("1: digest() of a new one", x.digest(), 0);
        due("1: hush() of a new one", x.hush(), 0);
        due("1: many() of a new one", x.many(), 0);
        due("1: safe() of a new one", x.safe() ? 1 : 0, 1);
        due("1: row(3, false) of a new one", x.row(3, false), 0);
        due("1: lay(7, 7, 0) of a new one", x.lay(7, 7, 0), 0);
        due("1: mean(1) of a new one", x.mean(1), -10);
        due("1: weight(9) of a new one", x.weight(9), -10);
    }

    private static void lay() {
        CartFloor x = new CartFloor(4, 3);
        due("2: lay", x.lay(1, 2, 1), 0);
        due("2: lay again", x.lay(1, 2, 2), 1);
        due("2: lay once more", x.lay(1, 2, 3), 2);
        due("2: lay back", x.lay(1, 2, 0), 3);
        int[][] refused = {{-1, 0, 1}, {4, 0, 1}, {0, -1, 1}, {0, 3, 1}, {1, 2, -1}, {1, 2, 4}, {MAX, MIN, 1},
            {1, 2, MAX}};
        for (int[] r : refused) {
            due("2: lay(" + r[0] + ", " + r[1] + ", " + r[2] + ")", x.lay(r[0], r[1], r[2]), -2);
        }
        due("2: refused lays change nothing", x.lay(1, 2, 2), 0);
        due("2: row gone", x.row(2, true), 0);
        due("2: lay in a row that is missing", x.lay(1, 2, 1), 2);
        due("2: row back", x.row(2, false), 1);
        due("2: its grounds are kept", x.lay(1, 2, 2), 1);
        due("2: a shelf", x.shelf(1, 2), 0);
        due("2: lay with a shelf there", x.lay(0, 0, 1), -2);
        CartFloor y = new CartFloor(2, 2);
        due("2: a cart", y.cart(PLAIN, 0, 0, 0), 0);
        due("2: lay with a cart there", y.lay(1, 1, 1), -2);
        due("2: it changed nothing", y.errand(0, 1, 1, -1), 1);
    }

    private static void row() {
        CartFloor x = new CartFloor(3, 3);
        x.mark(1, 1, 7);
        x.mark(2, 0, 8);
        x.mark(0, 2, 9);
        due("3: row there stays", x.row(1, false), 0);
        due("3: its marks stay", x.mark(1, 1, 7), 1007);
        due("3: row(1, true)", x.row(1, true), 0);
        due("3: row(1, true) again", x.row(1, true), 1);
        due("3: a cart on it", x.cart(PLAIN, 1, 1, 0), -2);
        due("3: row(1, false)", x.row(1, false), 1);
        due("3: row(1, false) again", x.row(1, false), 0);
        due("3: its marks are lost", x.mark(1, 1, 7), 1000);
        due("3: those of the row above stay", x.mark(2, 0, 8), 1008);
        due("3: those of the row below stay", x.mark(0, 2, 9), 1009);
        due("3: row(-1)", x.row(-1, true), -2);
        due("3: row(3)", x.row(3, true), -2);
        due("3: row(MAX)", x.row(MAX, true), -2);
        x.lay(0, 2, 2);
        due("3: a shelf", x.shelf(0, 2), 0);
        due("3: row with a shelf there", x.row(1, true), -2);
        CartFloor y = new CartFloor(3, 3);
        due("3: a cart", y.cart(PLAIN, 0, 0, 0), 0);
        due("3: row with a cart there", y.row(1, true), -2);
        due("3: row with a cart there, false", y.row(1, false), -2);
        due("3: it changed nothing", y.mark(0, 1, 1), 1000);
    }

    private static void shelf() {
        CartFloor x = new CartFloor(5, 5);
        for (int i = 0; i < 10; i++) {
            x.lay(i % 5, i / 5, 2);
            x.lay(i % 5, 3 + i / 5, 2);
        }
        x.lay(0, 2, 1);
        x.lay(1, 2, 3);
        x.row(4, true);
        due("4: no square west", x.shelf(-1, 0), -2);
        due("4: no square east", x.shelf(5, 0), -2);
        due("4: no square north", x.shelf(0, -1), -2);
        due("4: no square south", x.shelf(0, 5), -2);
        due("4: wall", x.shelf(0, 2), -2);
        due("4: stand", x.shelf(1, 2), -2);
        due("4: free", x.shelf(2, 2), -2);
        due("4: missing row", x.shelf(0, 4), -2);
        due("4: first", x.shelf(0, 0), 0);
        due("4: one is there", x.shelf(0, 0), -2);
        due("4: a cart", x.cart(PLAIN, 1, 0, EAST), 0);
        due("4: a cart stands there", x.shelf(1, 0), -2);
        due("4: a long", x.cart(LONG, 3, 0, EAST), 1);
        due("4: a long stands there", x.shelf(3, 0), -2);
        due("4: its square behind", x.shelf(2, 0), -2);
        due("4: before it, none stands", x.shelf(4, 0), 1);
        for (int i = 0; i < 10; i++) {
            due("4: the next", x.shelf(i % 5, i < 5 ? 1 : 3), 2 + i);
        }
        CartFloor y = new CartFloor(6, 3);
        for (int i = 0; i < 18; i++) {
            y.lay(i % 6, i / 6, 2);
        }
        for (int i = 0; i < 12; i++) {
            due("4: shelf " + i, y.shelf(i % 6, i / 6), i);
        }
        due("4: a thirteenth", y.shelf(0, 2), -2);
        due("4: count(1)", y.count(1), 12);
        CartFloor z = new CartFloor(3, 2);
        z.lay(0, 1, 2);
        z.cart(PLAIN, 0, 0, EAST);
        z.errand(0, 1, 0, -1);
        z.plan(0);
        due("4: a cart has a move", z.shelf(0, 1), -2);
        z.dawn();
        due("4: behind dawn none has", z.shelf(0, 1), 0);
    }

    private static void cart() {
        CartFloor x = new CartFloor(4, 4);
        x.lay(0, 3, 1);
        x.lay(1, 3, 2);
        x.row(2, true);
        x.shelf(1, 3);
        due("5: kind -1", x.cart(-1, 0, 0, 0), -2);
        due("5: kind 4", x.cart(4, 0, 0, 0), -2);
        due("5: heading -1", x.cart(0, 0, 0, -1), -2);
        due("5: heading 4", x.cart(0, 0, 0, 4), -2);
        due("5: x -1", x.cart(0, -1, 0, 0), -2);
        due("5: x 4", x.cart(0, 4, 0, 0), -2);
        due("5: y -1", x.cart(0, 0, -1, 0), -2);
        due("5: y 4", x.cart(0, 0, 4, 0), -2);
        due("5: MAX", x.cart(MAX, MAX, MAX, MAX), -2);
        due("5: wall", x.cart(PLAIN, 0, 3, 0), -2);
        due("5: missing row", x.cart(LIFTER, 0, 2, 0), -2);
        due("5: plain on a shelf", x.cart(PLAIN, 1, 3, 0), -2);
        due("5: long on a shelf", x.cart(LONG, 1, 3, WEST), -2);
        due("5: long before a shelf", x.cart(LONG, 2, 3, EAST), -2);
        due("5: lifter on a shelf", x.cart(LIFTER, 1, 3, 0), 0);
        due("5: it carries nothing", x.at(0, 0, 2), -1);
        due("5: long, behind not on the floor", x.cart(LONG, 1, 0, SOUTH), -2);
        due("5: guest, behind not on the floor", x.cart(GUEST, 0, 1, EAST), -2);
        due("5: guest, behind barred", x.cart(GUEST, 1, 1, NORTH), -2);
        due("5: long", x.cart(LONG, 1, 0, EAST), 1);
        due("5: on the long's square", x.cart(PLAIN, 1, 0, 0), -2);
        due("5: behind the long", x.cart(LIFTER, 0, 0, 0), -2);
        due("5: a guest whose behind is taken", x.cart(GUEST, 2, 0, EAST), -2);
        due("5: a guest beside", x.cart(GUEST, 2, 0, WEST), 2);
        due("5: plain", x.cart(PLAIN, 0, 1, WEST), 3);
        due("5: plain", x.cart(PLAIN, 1, 1, WEST), 4);
        due("5: plain", x.cart(PLAIN, 2, 1, WEST), 5);
        due("5: a seventh", x.cart(PLAIN, 3, 1, WEST), -2);
        due("5: count(0)", x.count(0), 6);
        due("5: square", x.at(5, 0, 0), 6);
        due("5: heading", x.at(5, 0, 1), 3);
        CartFloor z = new CartFloor(3, 2);
        z.cart(PLAIN, 0, 0, EAST);
        z.errand(0, 1, 0, -1);
        z.plan(0);
        due("5: a cart has a move", z.cart(PLAIN, 2, 1, 0), -2);
        z.dawn();
        due("5: the old square is free", z.cart(PLAIN, 0, 0, 0), 1);
        due("5: the new one isn't", z.cart(PLAIN, 1, 0, 0), -2);
    }

    private static void errand() {
        CartFloor x = new CartFloor(4, 3);
        x.lay(1, 1, 1);
        x.row(2, true);
        x.cart(PLAIN, 0, 0, EAST);
        x.cart(GUEST, 3, 1, SOUTH);
        x.cart(LONG, 2, 0, EAST);
        String before = view(x);
        due("6: no cart -1", x.errand(-1, 0, 0, -1), -2);
        due("6: no cart 3", x.errand(3, 0, 0, -1), -2);
        due("6: a guest", x.errand(1, 0, 0, -1), -2);
        due("6: no square west", x.errand(0, -1, 0, -1), -2);
        due("6: no square east", x.errand(0, 4, 0, -1), -2);
        due("6: no square north", x.errand(0, 0, -1, -1), -2);
        due("6: no square south", x.errand(0, 0, 3, -1), -2);
        due("6: wall", x.errand(0, 1, 1, -1), -2);
        due("6: missing", x.errand(0, 0, 2, -1), -2);
        due("6: no shelf -2", x.errand(0, 0, 0, -2), -2);
        due("6: no shelf 0", x.errand(0, 0, 0, 0), -2);
        same("6: refused errands", view(x), before);
        due("6: its own square", x.errand(0, 0, 0, -1), 1);
        due("6: one already", x.errand(0, 3, 0, -1), -2);
        due("6: the first one stays", x.about(0, 5), 0);
        due("6: open", x.about(0, 3), 1);
        due("6: a long", x.errand(2, 0, 0, -1), 1);
        due("6: end square", x.about(2, 5), 0);
        due("6: two with one end square", x.count(2), 2);
        due("6: planned, none to go", x.plan(0), 0);
        due("6: one that was planned", x.errand(0, 3, 0, -1), -2);
        CartFloor y = new CartFloor(3, 3);
        y.cart(PLAIN, 0, 0, EAST);
        y.stop(0, 0);
        due("6: stopped", y.errand(0, 1, 1, -1), -2);
        y.dawn();
        due("6: the next day", y.errand(0, 1, 1, -1), 1);
    }

    private static void errandWithShelf() {
        CartFloor x = new CartFloor(4, 3);
        x.lay(0, 0, 2);
        x.lay(1, 0, 2);
        x.lay(2, 0, 2);
        x.lay(3, 0, 2);
        x.shelf(0, 0);
        x.shelf(1, 0);
        x.cart(PLAIN, 0, 2, EAST);
        x.cart(LIFTER, 1, 2, EAST);
        x.cart(LIFTER, 2, 2, EAST);
        x.cart(LONG, 3, 2, SOUTH);
        due("6: plain with a shelf", x.errand(0, 2, 0, 0), -2);
        due("6: long with a shelf", x.errand(3, 2, 0, 0), -2);
        due("6: ground 0", x.errand(1, 2, 1, 0), -2);
        due("6: no shelf 2", x.errand(1, 2, 0, 2), -2);
        due("6: no shelf MIN", x.errand(1, 2, 0, MIN), -2);
        due("6: right", x.errand(1, 2, 0, 0), 1);
        due("6: the shelf has one", x.errand(2, 3, 0, 0), -2);
        due("6: another shelf", x.errand(2, 3, 0, 1), 1);
        due("6: plan of 1", x.plan(1), 9);
        same("6: its way", way(x, 1), "114532216");
        due("6: it lifts at 3", x.at(1, 3, 3), 5);
        due("6: stopped behind lifting", x.stop(1, 5), 0);
        x.dawn();
        due("6: carried at tick 0", x.at(1, 0, 2), 0);
        due("6: another cart carries it", x.errand(2, 3, 0, 0), -2);
        due("6: the cart carries another one", x.errand(1, 3, 0, 1), -2);
        due("6: the one that it carries", x.errand(1, 3, 0, 0), 1);
        due("6: the other one", x.errand(2, 2, 0, 1), 1);
        x.dawn();
        due("6: it may go without it", x.errand(1, 3, 1, -1), 1);
    }

    private static void planPlain() {
        CartFloor x = new CartFloor(4, 3);
        x.cart(PLAIN, 0, 0, EAST);
        due("7: no errand", x.plan(0), -2);
        due("7: no cart -1", x.plan(-1), -2);
        due("7: no cart 1", x.plan(1), -2);
        due("7: no cart MIN", x.plan(MIN), -2);
        x.errand(0, 3, 0, -1);
        due("7: straight", x.plan(0), 3);
        same("7: its way", way(x, 0), "222");
        due("7: planned", x.plan(0), -2);
        due("7: not open", x.about(0, 3), 0);
        x.dawn();
        x.errand(0, 3, 0, -1);
        due("7: no move to make", x.plan(0), 0);
        due("7: planned all the same", x.plan(0), -2);
        x.dawn();
        x.errand(0, 0, 2, -1);
        x.stop(0, 0);
        due("7: stopped", x.plan(0), -2);
        due("7: no end", x.about(0, 1), 0);
        CartFloor y = new CartFloor(4, 2);
        y.lay(1, 0, 1);
        y.lay(1, 1, 1);
        y.cart(PLAIN, 0, 0, EAST);
        y.errand(0, 3, 0, -1);
        due("7: no way", y.plan(0), -1);
        due("7: still open", y.about(0, 3), 1);
        due("7: still no way", y.plan(0), -1);
        CartFloor z = new CartFloor(4, 4);
        z.row(1, true);
        z.cart(PLAIN, 0, 0, EAST);
        z.errand(0, 0, 3, -1);
        due("7: no way over a row that is missing", z.plan(0), -1);
    }

    private static void planTurns() {
        int[] headings = {NORTH, EAST, SOUTH, WEST};
        String[] ways = {"2233", "2233", "3322", "2233"};
        int[] turns = {2, 1, 1, 2};
        for (int i = 0; i < 4; i++) {
            CartFloor x = new CartFloor(3, 3);
            x.cart(PLAIN, 0, 0, headings[i]);
            x.errand(0, 2, 2, -1);
            due("7: end", x.plan(0), 4);
            same("7: fewest turns, then the least, heading " + i, way(x, 0), ways[i]);
            due("7: turns", x.about(0, 2), turns[i]);
        }
        CartFloor x = new CartFloor(3, 3);
        x.lay(1, 0, 1);
        x.cart(PLAIN, 0, 0, EAST);
        x.errand(0, 2, 0, -1);
        due("7: around a wall", x.plan(0), 4);
        same("7: its way", way(x, 0), "3221");
        due("7: its turns", x.about(0, 2), 3);
    }

    private static void planAround() {
        CartFloor x = new CartFloor(3, 3);
        x.cart(PLAIN, 1, 0, SOUTH);
        x.cart(PLAIN, 0, 1, EAST);
        x.errand(0, 1, 2, -1);
        x.errand(1, 2, 1, -1);
        due("7: the first", x.plan(0), 2);
        due("7: the second waits", x.plan(1), 3);
        same("7: its way", way(x, 1), "022");
        CartFloor y = new CartFloor(3, 2);
        y.cart(PLAIN, 0, 0, EAST);
        y.cart(PLAIN, 1, 0, WEST);
        y.errand(1, 0, 0, -1);
        y.errand(0, 1, 0, -1);
        due("7: on another's square", y.plan(1), -1);
        due("7: nor the other one", y.plan(0), -1);
        CartFloor z = new CartFloor(4, 2);
        z.cart(PLAIN, 1, 0, EAST);
        z.cart(PLAIN, 2, 0, WEST);
        z.errand(0, 1, 1, -1);
        z.errand(1, 0, 0, -1);
        due("7: one goes down", z.plan(0), 1);
        due("7: the other follows at once", z.plan(1), 2);
        same("7: its way", way(z, 1), "44");
        CartFloor w = new CartFloor(4, 2);
        w.row(1, true);
        w.cart(GUEST, 1, 0, EAST);
        w.cart(PLAIN, 2, 0, WEST);
        tellAll(w, "1");
        due("7: a guest against a cart", w.guest(0), -11);
        w.errand(1, 3, 0, -1);
        due("7: away from the guest", w.plan(1), 1);
        CartFloor v = new CartFloor(4, 2);
        v.lay(1, 1, 1);
        v.cart(PLAIN, 0, 0, EAST);
        v.cart(PLAIN, 2, 1, NORTH);
        v.errand(0, 3, 0, -1);
        v.errand(1, 1, 0, -1);
        due("7: along row 0", v.plan(0), 3);
        due("7: changing places is meeting", v.plan(1), 4);
        same("7: its way", way(v, 1), "0014");
    }

    private static void planForGood() {
        CartFloor x = new CartFloor(3, 3);
        x.cart(PLAIN, 0, 0, EAST);
        x.cart(PLAIN, 1, 1, NORTH);
        x.errand(0, 2, 0, -1);
        x.errand(1, 1, 0, -1);
        due("7: passes (1, 0) at tick 1", x.plan(0), 2);
        due("7: comes there behind it", x.plan(1), 2);
        same("7: its way", way(x, 1), "01");
        CartFloor y = new CartFloor(5, 2);
        y.cart(PLAIN, 0, 0, EAST);
        y.cart(PLAIN, 3, 1, NORTH);
        y.errand(0, 4, 0, -1);
        y.errand(1, 3, 0, -1);
        due("7: along row 0", y.plan(0), 4);
        due("7: not before the other one has passed for good", y.plan(1), 4);
        same("7: its way", way(y, 1), "0001");
    }

    private static void planLifter() {
        CartFloor x = new CartFloor(4, 2);
        x.lay(1, 0, 2);
        x.lay(2, 0, 2);
        x.lay(3, 0, 2);
        x.shelf(1, 0);
        x.shelf(2, 0);
        x.cart(LIFTER, 0, 0, EAST);
        x.errand(0, 3, 0, 0);
        due("7: under one, lifts, around the other", x.plan(0), 7);
        same("7: its way", way(x, 0), "2532216");
        due("7: shelf before", x.shelved(0, 1), 1);
        due("7: lifted, still there", x.shelved(0, 2), 1);
        due("7: carried from the next tick on", x.at(0, 2, 2), 0);
        due("7: not yet", x.at(0, 1, 2), -1);
        due("7: brought", x.shelved(0, 6), 3);
        due("7: still carried", x.at(0, 6, 2), 0);
        due("7: let down", x.at(0, 7, 2), -1);
        x.dawn();
        x.errand(0, 0, 0, -1);
        due("7: carries none, under both", x.plan(0), 3);
        same("7: its way", way(x, 0), "444");
        x.dawn();
        x.errand(0, 1, 0, 1);
        due("7: to an END SQUARE one step back", x.plan(0), 5);
        same("7: its way", way(x, 0), "22546");
        x.dawn();
        x.errand(0, 1, 0, 1);
        due("7: a shelf on its END SQUARE already", x.plan(0), 2);
        same("7: its way", way(x, 0), "56");
    }

    private static void planLifting() {
        CartFloor x = new CartFloor(3, 3);
        x.lay(1, 1, 2);
        x.lay(1, 2, 2);
        x.shelf(1, 1);
        x.cart(LIFTER, 1, 0, SOUTH);
        x.cart(LIFTER, 0, 1, EAST);
        x.errand(0, 2, 2, -1);
        x.errand(1, 1, 2, 0);
        due("7: goes under the shelf", x.plan(0), 3);
        same("7: its way", way(x, 0), "332");
        due("7: the other one waits for it", x.plan(1), 5);
        same("7: its way", way(x, 1), "02536");
        CartFloor y = new CartFloor(3, 3);
        y.lay(1, 1, 2);
        y.lay(1, 2, 2);
        y.shelf(1, 1);
        y.cart(LIFTER, 0, 0, EAST);
        y.cart(LIFTER, 0, 1, EAST);
        y.errand(0, 1, 2, -1);
        y.errand(1, 1, 2, 0);
        due("7: passes under the shelf at tick 2", y.plan(0), 3);
        same("7: its way", way(y, 0), "233");
        due("7: no lifting at tick 1 then, and none is sought later", y.plan(1), -1);
        CartFloor z = new CartFloor(6, 2);
        z.lay(1, 0, 2);
        z.lay(2, 1, 2);
        z.shelf(1, 0);
        z.cart(LIFTER, 5, 0, WEST);
        z.cart(LIFTER, 1, 1, NORTH);
        z.errand(0, 0, 0, -1);
        z.errand(1, 2, 1, 0);
        due("7: passes under the shelf at tick 4", z.plan(0), 5);
        due("7: it is lifted before", z.plan(1), 5);
        same("7: its way", way(z, 1), "15326");
    }

    private static void planLong() {
        CartFloor x = new CartFloor(4, 4);
        x.cart(LONG, 1, 1, EAST);
        x.errand(0, 3, 1, -1);
        due("7: long ahead", x.plan(0), 2);
        same("7: its way", way(x, 0), "11");
        x.dawn();
        x.errand(0, 1, 1, -1);
        due("7: long back", x.plan(0), 2);
        same("7: its way", way(x, 0), "22");
        due("7: heading stays", x.at(0, 2, 1), EAST);
        due("7: no turns", x.about(0, 2), 0);
        x.dawn();
        x.errand(0, 0, 1, -1);
        due("7: to its square behind: it turns and goes back", x.plan(0), 2);
        same("7: its way", way(x, 0), "32");
        due("7: one turn", x.about(0, 2), 1);
        CartFloor u = new CartFloor(3, 2);
        u.cart(LONG, 2, 0, EAST);
        u.errand(0, 1, 0, -1);
        due("7: back to the edge", u.plan(0), 1);
        same("7: its way", way(u, 0), "2");
        CartFloor t = new CartFloor(2, 2);
        t.cart(LONG, 0, 1, WEST);
        t.errand(0, 1, 0, -1);
        due("7: a turn in the first corner", t.plan(0), 1);
        same("7: its way", way(t, 0), "4");
        CartFloor y = new CartFloor(2, 2);
        y.cart(LONG, 1, 0, EAST);
        y.cart(PLAIN, 1, 1, NORTH);
        y.errand(0, 0, 1, -1);
        due("7: a turn needs all four", y.plan(0), -1);
        CartFloor z = new CartFloor(2, 2);
        z.cart(LONG, 1, 0, EAST);
        z.errand(0, 0, 1, -1);
        due("7: a turn in four", z.plan(0), 1);
        same("7: its way", way(z, 0), "4");
        due("7: its heading", z.at(0, 1, 1), SOUTH);
        CartFloor w = new CartFloor(2, 2);
        w.lay(1, 1, 1);
        w.cart(LONG, 1, 0, EAST);
        w.errand(0, 0, 1, -1);
        due("7: not with a wall in them", w.plan(0), -1);
        CartFloor v = new CartFloor(2, 2);
        v.lay(1, 1, 2);
        v.shelf(1, 1);
        v.cart(LONG, 1, 0, EAST);
        v.errand(0, 0, 1, -1);
        due("7: nor with a shelf in them", v.plan(0), -1);
    }

    private static void planGuestsTurn() {
        CartFloor x = new CartFloor(3, 3);
        x.cart(GUEST, 1, 0, EAST);
        x.cart(PLAIN, 1, 2, NORTH);
        tellAll(x, "004");
        due("7: the guest turns", x.guest(0), 3);
        due("7: its square", x.at(0, 3, 0), 3);
        x.errand(1, 1, 1, -1);
        due("7: the corner is held at ticks 2 and 3", x.plan(1), 4);
        same("7: its way", way(x, 1), "0001");
        CartFloor y = new CartFloor(3, 3);
        y.cart(GUEST, 1, 0, EAST);
        y.cart(PLAIN, 1, 2, NORTH);
        tellAll(y, "00004");
        y.guest(0);
        y.errand(1, 2, 1, -1);
        due("7: passes before", y.plan(1), 2);
        CartFloor z = new CartFloor(3, 3);
        z.cart(GUEST, 1, 0, EAST);
        z.cart(PLAIN, 2, 2, NORTH);
        tellAll(z, "0004");
        z.guest(0);
        z.errand(1, 0, 2, -1);
        due("7: below the four", z.plan(1), 2);
        same("7: its way", way(z, 1), "44");
        String[] ways = {"43", "443", "3444", "34444", "444443"};
        for (int i = 0; i < ways.length; i++) {
            CartFloor v = new CartFloor(3 + i, 3);
            v.cart(GUEST, 1, 0, EAST);
            v.cart(PLAIN, 2 + i, 1, WEST);
            tellAll(v, "0004");
            v.guest(0);
            v.errand(1, 1, 2, -1);
            due("7: past the corner from " + (2 + i), v.plan(1), 2 + i);
            same("7: the corner is held at ticks 3 and 4, from " + (2 + i), way(v, 1), ways[i]);
        }
        CartFloor w = new CartFloor(3, 3);
        w.cart(LONG, 1, 0, EAST);
        w.cart(PLAIN, 2, 1, WEST);
        w.errand(0, 0, 2, -1);
        w.errand(1, 1, 2, -1);
        due("7: a long turns, then goes on", w.plan(0), 2);
        same("7: its way", way(w, 0), "41");
        due("7: its corner is held at tick 1", w.plan(1), 2);
        same("7: its way", way(w, 1), "34");
    }

    private static CartFloor held(int waits, boolean withShelf) {
        CartFloor x = new CartFloor(5, 2);
        x.row(1, true);
        x.lay(0, 0, 2);
        x.lay(2, 0, 2);
        if (withShelf) {
            x.shelf(0, 0);
        }
        x.cart(LIFTER, 0, 0, EAST);
        x.cart(GUEST, 3, 0, EAST);
        x.tell(0, waits);
        x.tell(1, 1);
        due("7: the guest leaves at last", x.guest(1), waits + 1);
        due("7: the errand", x.errand(0, 2, 0, withShelf ? 0 : -1), 1);
        return x;
    }

    private static void planFourHundred() {
        CartFloor x = held(399, false);
        due("7: 400 moves", x.plan(0), 400);
        due("7: waits up to the last", x.at(0, 399, 0), 1);
        due("7: and is there", x.at(0, 400, 0), 2);
        CartFloor y = held(398, true);
        due("7: 400 moves with letting down", y.plan(0), 400);
        due("7: it lets down last", y.at(0, 399, 3), 6);
        due("7: let down", y.at(0, 400, 2), -1);
        CartFloor z = held(399, true);
        due("7: 401 are too many", z.plan(0), -1);
        due("7: nothing is gone", z.about(0, 1), 0);
        due("7: nor lifted", z.at(0, 5, 2), -1);
        CartFloor w = new CartFloor(5, 2);
        w.row(1, true);
        w.cart(PLAIN, 0, 0, EAST);
        w.cart(GUEST, 2, 0, EAST);
        w.tell(0, 399);
        w.tell(1, 1);
        due("7: the guest leaves at last", w.guest(1), 400);
        w.errand(0, 2, 0, -1);
        due("7: none within 400", w.plan(0), -1);
        due("7: still open", w.about(0, 3), 1);
    }

    private static void many() {
        CartFloor x = new CartFloor(4, 4);
        for (int c = 0; c < 4; c++) {
            x.cart(PLAIN, 0, c, EAST);
        }
        x.errand(0, 3, 0, -1);
        x.errand(2, 3, 2, -1);
        x.errand(3, 3, 2, -1);
        due("8: two of three", x.many(), 2);
        due("8: the third is open", x.about(3, 3), 1);
        due("8: count(3)", x.count(3), 1);
        due("8: none more", x.many(), 0);
        due("8: the one without", x.about(1, 1), 0);
        CartFloor y = new CartFloor(3, 3);
        y.cart(PLAIN, 0, 1, EAST);
        y.cart(PLAIN, 1, 0, SOUTH);
        y.errand(0, 2, 1, -1);
        y.errand(1, 1, 2, -1);
        due("8: by their numbers", y.many(), 2);
        same("8: the first goes at once", way(y, 0), "22");
        same("8: the second waits", way(y, 1), "033");
    }

    private static void stopPlans() {
        CartFloor x = new CartFloor(3, 3);
        x.cart(PLAIN, 1, 0, SOUTH);
        x.cart(PLAIN, 0, 1, EAST);
        x.errand(0, 1, 2, -1);
        x.errand(1, 2, 1, -1);
        due("9: planned", x.many(), 2);
        due("9: stopped in the middle", x.stop(0, 1), 1);
        due("9: it is there", x.at(0, 400, 0), 4);
        due("9: its end", x.about(0, 1), 1);
        due("9: stopped", x.about(0, 4), 1);
        due("9: the other one is not", x.about(1, 4), 0);
        same("9: it goes around", way(x, 1), "01223");
        due("9: errands stay", x.count(2), 2);
        CartFloor y = new CartFloor(3, 3);
        y.cart(PLAIN, 1, 0, SOUTH);
        y.cart(PLAIN, 0, 1, EAST);
        y.errand(0, 1, 2, -1);
        y.errand(1, 2, 1, -1);
        y.many();
        due("9: behind its end", y.stop(0, 2), 0);
        same("9: its way stays", way(y, 0), "33");
        due("9: and stays stopped", y.about(0, 4), 1);
        CartFloor z = new CartFloor(3, 3);
        z.cart(PLAIN, 1, 0, SOUTH);
        z.cart(PLAIN, 0, 1, EAST);
        z.errand(0, 1, 2, -1);
        z.errand(1, 2, 1, -1);
        z.many();
        due("9: the later one stops, none is troubled", z.stop(1, 0), 0);
        due("9: it has no moves", z.about(1, 1), 0);
        same("9: the other goes on", way(z, 0), "33");
    }

    private static void stopStrands() {
        CartFloor x = new CartFloor(3, 3);
        x.cart(PLAIN, 0, 0, NORTH);
        x.cart(LIFTER, 2, 2, NORTH);
        x.errand(0, 2, 0, -1);
        x.errand(1, 1, 0, -1);
        due("9: planned", x.many(), 2);
        due("9: on the other's END SQUARE", x.stop(0, 1), 0);
        due("9: stranded", x.about(1, 4), 2);
        due("9: count(5)", x.count(5), 1);
        due("9: it stays as it is at 1", x.about(1, 1), 1);
        due("9: a stranded one can't stop", x.stop(1, 1), -2);
        due("9: nor be planned", x.plan(1), -2);
        due("9: nor be open", x.about(1, 3), 0);
        x.dawn();
        due("9: stranded no more", x.count(5), 0);
    }

    private static void stopRefuses() {
        CartFloor x = new CartFloor(4, 4);
        x.cart(PLAIN, 0, 0, EAST);
        x.cart(PLAIN, 0, 1, EAST);
        x.cart(PLAIN, 0, 2, EAST);
        x.cart(GUEST, 1, 3, EAST);
        x.errand(0, 3, 0, -1);
        x.errand(1, 3, 1, -1);
        due("9: planned", x.many(), 2);
        String before = view(x);
        due("9: no cart -1", x.stop(-1, 1), -2);
        due("9: no cart 4", x.stop(4, 1), -2);
        due("9: a guest", x.stop(3, 1), -2);
        due("9: k -1", x.stop(0, -1), -2);
        due("9: k 401", x.stop(0, 401), -2);
        due("9: k MIN", x.stop(0, MIN), -2);
        due("9: k MAX", x.stop(0, MAX), -2);
        same("9: refused stops", view(x), before);
        due("9: k 2", x.stop(0, 2), 0);
        due("9: stopped already", x.stop(0, 2), -2);
        due("9: below an earlier one", x.stop(1, 1), -2);
        due("9: as the earlier one", x.stop(1, 2), 0);
        due("9: k 400, without an errand", x.stop(2, 400), 0);
        due("9: count(4)", x.count(4), 3);
        x.dawn();
        due("9: tomorrow from 0 on", x.stop(1, 0), 0);
    }

    private static void stopGuest() {
        CartFloor x = new CartFloor(5, 2);
        x.cart(GUEST, 1, 0, EAST);
        x.cart(PLAIN, 4, 0, WEST);
        x.cart(PLAIN, 4, 1, WEST);
        tellAll(x, "00011");
        due("9: the guest", x.guest(0), 5);
        x.errand(1, 2, 1, -1);
        x.errand(2, 3, 1, -1);
        due("9: planned", x.many(), 2);
        same("9: its way", way(x, 1), "443");
        String before = view(x);
        due("9: in the guest's way", x.stop(1, 2), -3);
        same("9: all is as it was", view(x), before);
        due("9: a stop that was not done binds none", x.stop(1, 0), 0);
        CartFloor y = new CartFloor(5, 2);
        y.cart(GUEST, 1, 0, EAST);
        y.cart(PLAIN, 4, 0, WEST);
        tellAll(y, "00011");
        y.guest(0);
        y.errand(1, 2, 1, -1);
        y.many();
        due("9: past the guest", y.stop(1, 3), 0);
        same("9: the guest goes on", way(y, 0), "00011");
        for (int wall = 0; wall < 2; wall++) {
            CartFloor z = new CartFloor(5, 3);
            z.lay(3, 1, 1);
            z.lay(4, 1, wall);
            z.cart(GUEST, 1, 0, EAST);
            z.cart(PLAIN, 3, 0, WEST);
            z.cart(PLAIN, 4, 0, WEST);
            z.cart(PLAIN, 0, 2, WEST);
            tellAll(z, "0001");
            due("9: the guest", z.guest(0), 4);
            z.errand(1, 1, 1, -1);
            z.errand(2, 2, 2, -1);
            due("9: one behind the other", z.many(), 2);
            same("9: the first", way(z, 1), "434");
            same("9: the second", way(z, 2), "4433");
            due("9: one that only stands stops", z.stop(3, 1), 0);
            String all = view(z);
            due("9: the second is planned or stranded, then the guest is troubled", z.stop(1, 1), -3);
            same("9: all is as it was, wall " + wall, view(z), all);
            due("9: past it, the guest is not", z.stop(1, 3), 0);
        }
    }

    private static void stopCarrying() {
        CartFloor x = new CartFloor(5, 3);
        x.lay(0, 1, 2);
        x.lay(4, 1, 2);
        x.shelf(0, 1);
        x.cart(PLAIN, 2, 0, SOUTH);
        x.cart(LIFTER, 0, 0, SOUTH);
        x.errand(0, 2, 2, -1);
        x.errand(1, 4, 1, 0);
        due("9: planned", x.many(), 2);
        same("9: the lifter's way", way(x, 1), "3522226");
        due("9: stops before it, while it lifts", x.stop(0, 1), 1);
        same("9: lifting is done again, then around", way(x, 1), "353222216");
        due("9: the shelf comes there", x.shelved(0, 400), 9);
        CartFloor y = new CartFloor(5, 3);
        y.lay(0, 1, 2);
        y.lay(4, 1, 2);
        y.shelf(0, 1);
        y.cart(PLAIN, 2, 0, SOUTH);
        y.cart(LIFTER, 0, 0, SOUTH);
        y.errand(1, 4, 1, 0);
        y.errand(0, 2, 2, -1);
        due("9: the lifter first", y.plan(1), 7);
        due("9: the plain one", y.plan(0), 2);
        due("9: the lifter stops with the shelf", y.stop(1, 3), 0);
        due("9: it carries it", y.at(1, 400, 2), 0);
        due("9: and is at", y.shelved(0, 400), 6);
        y.dawn();
        due("9: the shelf is where the cart is", y.shelved(0, 0), 6);
        y.errand(1, 4, 1, 0);
        due("9: the next day it brings it", y.plan(1), 4);
        same("9: its way", way(y, 1), "2226");
    }

    private static void stopShelfStays() {
        CartFloor x = new CartFloor(4, 2);
        x.lay(1, 0, 2);
        x.lay(0, 1, 2);
        x.shelf(1, 0);
        x.cart(LIFTER, 0, 0, EAST);
        x.cart(PLAIN, 3, 0, WEST);
        x.errand(0, 0, 1, 0);
        x.errand(1, 0, 0, -1);
        due("9: the lifter takes the shelf away", x.plan(0), 5);
        same("9: its way", way(x, 0), "25346");
        due("9: then there is a way", x.plan(1), 4);
        same("9: its way", way(x, 1), "0444");
        due("9: the shelf stays, with the lifter below", x.stop(0, 1), 1);
        same("9: the other one goes around", way(x, 1), "034441");
        due("9: the shelf is not brought", x.shelved(0, 400), 1);
        CartFloor y = new CartFloor(5, 2);
        y.lay(2, 0, 2);
        y.lay(4, 1, 2);
        y.shelf(2, 0);
        y.cart(PLAIN, 0, 1, EAST);
        y.cart(LIFTER, 3, 0, WEST);
        y.cart(PLAIN, 0, 0, EAST);
        y.errand(1, 4, 1, 0);
        y.errand(2, 4, 0, -1);
        due("9: the lifter takes the shelf away", y.plan(1), 6);
        same("9: its way", way(y, 1), "452236");
        due("9: the other one passes there", y.plan(2), 5);
        same("9: its way", way(y, 2), "02222");
        due("9: it stops where the shelf was", y.stop(1, 2), 1);
        same("9: the other one goes around", way(y, 2), "0232221");
        CartFloor z = new CartFloor(5, 2);
        z.lay(2, 0, 2);
        z.lay(4, 1, 2);
        z.shelf(2, 0);
        z.cart(LIFTER, 3, 0, WEST);
        z.cart(PLAIN, 0, 0, EAST);
        z.errand(0, 4, 1, 0);
        z.errand(1, 2, 0, -1);
        due("9: the lifter", z.plan(0), 6);
        due("9: to where the shelf was", z.plan(1), 3);
        due("9: the shelf stays there, alone", z.stop(0, 0), 0);
        due("9: stranded by a shelf", z.about(1, 4), 2);
    }

    private static void stopLong() {
        CartFloor x = new CartFloor(4, 3);
        x.cart(PLAIN, 2, 0, SOUTH);
        x.cart(LONG, 1, 1, EAST);
        x.errand(0, 2, 2, -1);
        x.errand(1, 3, 1, -1);
        due("9: planned", x.many(), 2);
        same("9: long waits", way(x, 1), "011");
        due("9: the long can't pass", x.stop(0, 1), 0);
        due("9: stranded", x.about(1, 4), 2);
        CartFloor y = new CartFloor(5, 4);
        y.cart(PLAIN, 3, 0, SOUTH);
        y.cart(LONG, 1, 1, EAST);
        y.errand(0, 3, 3, -1);
        y.errand(1, 4, 1, -1);
        due("9: planned", y.many(), 2);
        due("9: the long goes around", y.stop(0, 1), 1);
        due("9: it comes there", y.at(1, 400, 0), 9);
    }

    private static void dawn() {
        CartFloor x = new CartFloor(4, 3);
        x.lay(1, 0, 2);
        x.lay(3, 0, 2);
        x.shelf(1, 0);
        x.cart(LIFTER, 0, 0, EAST);
        x.cart(PLAIN, 0, 2, EAST);
        x.cart(GUEST, 3, 2, NORTH);
        x.errand(0, 3, 0, 0);
        x.errand(1, 0, 1, -1);
        x.tell(3, 2);
        due("10: planned", x.many(), 2);
        due("10: stopped", x.stop(1, 0), 0);
        due("10: day 1", x.dawn(), 1);
        due("10: count(8)", x.count(8), 1);
        due("10: square", x.at(0, 0, 0), 3);
        due("10: heading", x.at(0, 0, 1), EAST);
        due("10: no moves", x.count(6), 0);
        due("10: the shelf is where it is", x.shelved(0, 0), 3);
        due("10: no errands", x.count(2), 0);
        due("10: none stopped", x.count(4), 0);
        due("10: no end square", x.about(0, 5), -1);
        due("10: the told row stays", x.hush(), 2);
        due("10: day 2", x.dawn(), 2);
        due("10: nothing moved", x.at(0, 0, 0), 3);
        due("10: an errand again", x.errand(0, 1, 0, 0), 1);
        due("10: planned again", x.plan(0), 4);
        CartFloor y = new CartFloor(4, 3);
        y.lay(1, 0, 2);
        y.lay(3, 0, 2);
        y.shelf(1, 0);
        y.cart(LIFTER, 0, 0, EAST);
        y.cart(LIFTER, 0, 2, EAST);
        due("10: one cart's shelf", y.errand(0, 3, 0, 0), 1);
        due("10: not another's today", y.errand(1, 3, 0, 0), -2);
        y.dawn();
        due("10: no errand has it", y.safe() ? 1 : 0, 1);
        due("10: another's tomorrow", y.errand(1, 3, 0, 0), 1);
        due("10: the first one's without", y.errand(0, 0, 1, -1), 1);
        due("10: both planned", y.many(), 2);
    }

    private static void tellHush() {
        CartFloor x = new CartFloor(3, 3);
        due("11: one", x.tell(0, 1), 1);
        due("11: three more", x.tell(6, 3), 4);
        due("11: move -1", x.tell(-1, 1), -2);
        due("11: move 7", x.tell(7, 1), -2);
        due("11: no times", x.tell(1, 0), -2);
        due("11: times -1", x.tell(1, -1), -2);
        due("11: times MIN", x.tell(1, MIN), -2);
        due("11: times 401", x.tell(1, 401), -2);
        due("11: times MAX", x.tell(1, MAX), -2);
        due("11: 401 in all", x.tell(1, 397), -2);
        due("11: 400 in all", x.tell(1, 396), 400);
        due("11: one more", x.tell(1, 1), -2);
        due("12: hush", x.hush(), 400);
        due("12: hush again", x.hush(), 0);
        due("11: 400 at once", x.tell(5, 400), 400);
        due("12: all of them", x.hush(), 400);
        due("11: from the front", x.tell(2, 1), 1);
    }

    private static void check() {
        CartFloor x = new CartFloor(4, 3);
        x.lay(1, 1, 1);
        x.row(2, true);
        x.cart(PLAIN, 0, 0, EAST);
        x.cart(PLAIN, 3, 0, WEST);
        due("13: no cart -1", x.check(-1), -2);
        due("13: no cart 2", x.check(2), -2);
        due("13: an empty row", x.check(0), 0);
        tellAll(x, "2");
        due("13: a step", x.check(0), 1);
        String before = view(x);
        due("13: again", x.check(0), 1);
        same("13: nothing changes", view(x), before);
        tellAll(x, "1");
        due("13: off the floor: move 0", x.check(0), -11);
        tellAll(x, "021");
        due("13: off the floor: move 2", x.check(0), -13);
        tellAll(x, "23");
        due("13: into a wall at tick 2", x.check(0), -12);
        tellAll(x, "33");
        due("13: into a missing row at tick 2", x.check(0), -12);
        tellAll(x, "222");
        due("13: meets at tick 3", x.check(0), -13);
        tellAll(x, "05");
        due("13: a plain can't lift", x.check(0), -12);
        tellAll(x, "6");
        due("13: nor let down", x.check(0), -11);
        x.errand(1, 1, 0, -1);
        due("13: planned", x.plan(1), 2);
        tellAll(x, "22");
        due("13: they meet at tick 1 or change places at 2: at 2 first", x.check(0), -12);
        tellAll(x, "02");
        due("13: at tick 2 both at (1, 0)", x.check(0), -12);
        tellAll(x, "3");
        due("13: out of its way", x.check(0), 1);
        tellAll(x, "32");
        due("13: wall", x.check(0), -12);
        tellAll(x, "");
        due("13: it stays", x.check(0), 0);
        tellAll(x, "0000002");
        due("13: behind the other's end, without end", x.check(0), -17);
        tellAll(x, "4");
        due("13: its own way is set aside", x.check(1), 1);
        CartFloor y = new CartFloor(4, 2);
        y.cart(PLAIN, 0, 0, EAST);
        y.cart(PLAIN, 3, 1, NORTH);
        y.errand(1, 1, 0, -1);
        due("13: the other comes to (1, 0)", y.plan(1), 3);
        tellAll(y, "2");
        due("13: rests where the other one comes", y.check(0), -13);
        tellAll(y, "203");
        due("13: leaves as it comes", y.check(0), 3);
        tellAll(y, "222");
        due("13: past each other is no meeting, changing places is", y.check(0), -12);
    }

    private static void checkShelves() {
        CartFloor x = new CartFloor(4, 2);
        x.lay(0, 0, 2);
        x.lay(1, 0, 2);
        x.lay(3, 0, 2);
        x.shelf(1, 0);
        x.shelf(0, 0);
        x.cart(LIFTER, 0, 1, EAST);
        x.cart(LIFTER, 2, 1, EAST);
        x.cart(PLAIN, 3, 1, EAST);
        tellAll(x, "15321");
        due("13: carrying one, under another one at tick 5", x.check(0), -15);
        tellAll(x, "1536");
        due("13: no letting down but on a shelf's place", x.check(0), -14);
        tellAll(x, "152");
        due("13: carrying, no square with another shelf", x.check(0), -13);
        tellAll(x, "1502");
        due("13: the same one tick later", x.check(0), -14);
        tellAll(x, "12");
        due("13: empty it may go under both", x.check(0), 2);
        tellAll(x, "1255");
        due("13: it lifts once", x.check(0), -14);
        tellAll(x, "1256");
        due("13: and lets down", x.check(0), 4);
        tellAll(x, "12565");
        due("13: and lifts again", x.check(0), 5);
        tellAll(x, "1254");
        due("13: carrying shelf 0, under shelf 1", x.check(0), -14);
        tellAll(x, "5");
        due("13: nothing to lift", x.check(0), -11);
        tellAll(x, "044");
        due("13: a plain, and a cart in its way", x.check(2), -12);
        tellAll(x, "144");
        due("13: a plain, and a shelf in its way", x.check(2), -13);
        x.errand(1, 3, 0, 0);
        due("13: planned", x.plan(1), 6);
        same("13: its way", way(x, 1), "145226");
        tellAll(x, "125");
        due("13: meets the one that lifts", x.check(0), -12);
        tellAll(x, "0000125");
        due("13: nothing is there to lift by then", x.check(0), -17);
        tellAll(x, "1000256");
        due("13: under the one that is lifted, where none is left", x.check(0), -16);
        tellAll(x, "145");
        due("13: its own way's shelf is there till the told row lifts it", x.check(1), 3);
        tellAll(x, "14");
        due("13: it isn't lifted then", x.check(1), 2);
        tellAll(x, "1452");
        due("13: carried", x.check(1), 4);
        x.stop(1, 3);
        x.dawn();
        tellAll(x, "6");
        due("13: carried at tick 0, let down", x.check(1), 1);
        tellAll(x, "65");
        due("13: and lifted again", x.check(1), 2);
        tellAll(x, "625");
        due("13: let down, gone on: nothing there", x.check(1), -13);
        tellAll(x, "2265442");
        due("13: brought, let down, lifted again", x.check(1), 7);
        tellAll(x, "226445");
        due("13: nothing where it was", x.check(1), -16);
        tellAll(x, "25");
        due("13: carrying it can't lift", x.check(1), -12);
    }

    private static void checkLong() {
        CartFloor x = new CartFloor(4, 4);
        x.lay(3, 3, 1);
        x.cart(LONG, 1, 1, EAST);
        x.cart(PLAIN, 3, 0, SOUTH);
        tellAll(x, "1");
        due("13: ahead", x.check(0), 1);
        tellAll(x, "2");
        due("13: back: the square behind is not on the floor", x.check(0), -11);
        tellAll(x, "12");
        due("13: ahead and back", x.check(0), 2);
        tellAll(x, "3");
        due("13: left", x.check(0), 1);
        tellAll(x, "33");
        due("13: left twice: not on the floor", x.check(0), -12);
        tellAll(x, "4");
        due("13: right", x.check(0), 1);
        tellAll(x, "5");
        due("13: no move 5", x.check(0), -11);
        tellAll(x, "113");
        due("13: a turn whose corner is held counts for its first tick", x.check(0), -12);
        tellAll(x, "1103");
        due("13: a tick later", x.check(0), -13);
        tellAll(x, "114");
        due("13: the other way", x.check(0), 3);
        tellAll(x, "1141");
        due("13: and on", x.check(0), 4);
        tellAll(x, "11411");
        due("13: off the floor", x.check(0), -15);
        tellAll(x, "1141413");
        due("13: turns all along", x.check(0), 7);
        tellAll(x, "11414131");
        due("13: and one that can't be made", x.check(0), -18);
        tellAll(x, "11413");
        due("13: a turn over the wall at tick 4", x.check(0), -14);
        tellAll(x, "111");
        due("13: off the floor ahead", x.check(0), -13);
        CartFloor y = new CartFloor(3, 3);
        y.cart(LONG, 1, 0, EAST);
        y.cart(PLAIN, 1, 2, NORTH);
        y.errand(1, 1, 1, -1);
        due("13: comes to the corner at tick 1", y.plan(1), 1);
        tellAll(y, "4");
        due("13: the corner is held behind the turn, too", y.check(0), -11);
    }

    private static void guest() {
        CartFloor x = new CartFloor(4, 4);
        x.cart(GUEST, 1, 0, EAST);
        x.cart(GUEST, 1, 3, EAST);
        x.cart(PLAIN, 0, 2, EAST);
        tellAll(x, "11");
        due("14: no cart -1", x.guest(-1), -2);
        due("14: no cart 3", x.guest(3), -2);
        due("14: no guest", x.guest(2), -2);
        due("14: right", x.guest(0), 2);
        due("14: its way", x.at(0, 2, 0), 3);
        due("14: the told row stays", x.hush(), 2);
        x.tell(2, 1);
        due("14: it has a move", x.guest(0), -2);
        due("14: as check() answers", x.guest(1), -11);
        due("14: then it has none", x.about(1, 1), 0);
        x.hush();
        due("14: an empty row", x.guest(1), 0);
        x.tell(1, 1);
        due("14: with a guest's moves there", x.guest(1), 1);
        x.dawn();
        x.errand(2, 1, 2, -1);
        due("14: a cart is planned", x.plan(2), 1);
        due("14: one that is no guest has a move", x.guest(1), -2);
        x.dawn();
        due("14: none has", x.guest(0), -11);
    }

    private static void at() {
        CartFloor x = new CartFloor(4, 2);
        x.lay(2, 0, 2);
        x.lay(3, 0, 2);
        x.shelf(2, 0);
        x.cart(LIFTER, 0, 0, SOUTH);
        x.errand(0, 3, 0, 0);
        due("15: planned", x.plan(0), 5);
        int[][] want = {{0, 2, -1, 2}, {1, 1, -1, 2}, {2, 1, -1, 5}, {2, 1, 0, 2}, {3, 1, 0, 6}, {3, 1, -1, 0},
            {3, 1, -1, 0}};
        for (int t = 0; t < want.length; t++) {
            for (int what = 0; what < 4; what++) {
                due("15: at(0, " + t + ", " + what + ")", x.at(0, t, what), want[t][what]);
            }
        }
        for (int what = 0; what < 4; what++) {
            due("15: at(0, MAX, " + what + ")", x.at(0, MAX, what), want[5][what]);
            due("15: at(0, 402, " + what + ")", x.at(0, 402, what), want[5][what]);
        }
        due("15: no cart -1", x.at(-1, 0, 0), -2);
        due("15: no cart 1", x.at(1, 0, 0), -2);
        due("15: no what -1", x.at(0, 0, -1), -2);
        due("15: no what 4", x.at(0, 0, 4), -2);
        due("15: t -1", x.at(0, -1, 0), -2);
        due("15: t MIN", x.at(0, MIN, 3), -2);
    }

    private static void shelved() {
        CartFloor x = new CartFloor(4, 2);
        x.lay(1, 0, 2);
        x.lay(3, 0, 2);
        x.shelf(1, 0);
        x.cart(LIFTER, 0, 0, EAST);
        x.errand(0, 3, 0, 0);
        due("16: planned", x.plan(0), 5);
        int[] want = {1, 1, 1, 2, 3, 3, 3};
        for (int t = 0; t < want.length; t++) {
            due("16: shelved(0, " + t + ")", x.shelved(0, t), want[t]);
        }
        due("16: shelved(0, MAX)", x.shelved(0, MAX), 3);
        due("16: t -1", x.shelved(0, -1), -2);
        due("16: t MIN", x.shelved(0, MIN), -2);
        due("16: no shelf -1", x.shelved(-1, 0), -2);
        due("16: no shelf 1", x.shelved(1, 0), -2);
        due("16: no shelf 12", x.shelved(12, 0), -2);
    }

    private static void about() {
        CartFloor x = new CartFloor(4, 4);
        x.cart(LONG, 1, 1, EAST);
        x.cart(PLAIN, 3, 3, WEST);
        x.cart(LIFTER, 3, 0, WEST);
        x.cart(GUEST, 1, 3, EAST);
        int[] kinds = {2, 0, 1, 3};
        for (int c = 0; c < 4; c++) {
            due("17: kind", x.about(c, 0), kinds[c]);
            due("17: end", x.about(c, 1), 0);
            due("17: turns", x.about(c, 2), 0);
            due("17: open", x.about(c, 3), 0);
            due("17: fate", x.about(c, 4), 0);
            due("17: end square", x.about(c, 5), -1);
        }
        x.errand(0, 1, 2, -1);
        due("17: open with an errand", x.about(0, 3), 1);
        due("17: its end square", x.about(0, 5), 9);
        due("17: planned", x.plan(0), 2);
        due("17: not open", x.about(0, 3), 0);
        due("17: its end", x.about(0, 1), 2);
        due("17: its turns", x.about(0, 2), 1);
        due("17: stop", x.stop(0, 1), 0);
        due("17: stopped", x.about(0, 4), 1);
        due("17: its end", x.about(0, 1), 1);
        due("17: its turns", x.about(0, 2), 0);
        due("17: its end square stays", x.about(0, 5), 9);
        due("17: no cart -1", x.about(-1, 0), -2);
        due("17: no cart 4", x.about(4, 0), -2);
        due("17: no what -1", x.about(0, -1), -2);
        due("17: no what 6", x.about(0, 6), -2);
        x.dawn();
        tellAll(x, "0");
        due("17: a guest's way", x.guest(3), 1);
        due("17: a guest's end", x.about(3, 1), 1);
        due("17: a wait is no turn", x.about(3, 2), 0);
    }

    private static void count() {
        CartFloor x = new CartFloor(3, 3);
        x.lay(2, 1, 2);
        x.shelf(2, 1);
        x.cart(PLAIN, 0, 0, NORTH);
        x.cart(LIFTER, 2, 2, NORTH);
        x.cart(PLAIN, 0, 2, EAST);
        x.errand(0, 2, 0, -1);
        x.errand(1, 1, 0, -1);
        x.errand(2, 2, 1, -1);
        due("18: three are open", x.count(3), 3);
        due("18: many", x.many(), 2);
        int[] want = {3, 1, 3, 1, 0, 0, 5, 3, 0};
        for (int what = 0; what < 9; what++) {
            due("18: count(" + what + ")", x.count(what), want[what]);
        }
        due("18: stop", x.stop(0, 1), 0);
        int[] then = {3, 1, 3, 1, 1, 1, 2, 1, 0};
        for (int what = 0; what < 9; what++) {
            due("18: count(" + what + ") then", x.count(what), then[what]);
        }
        due("18: count(-1)", x.count(-1), -2);
        due("18: count(9)", x.count(9), -2);
        due("18: count(MAX)", x.count(MAX), -2);
        x.dawn();
        due("18: the day", x.count(8), 1);
        due("18: errands", x.count(2), 0);
    }

    private static void digest() {
        CartFloor x = new CartFloor(3, 3);
        x.cart(PLAIN, 0, 0, EAST);
        x.cart(PLAIN, 0, 2, EAST);
        due("19: no moves", x.digest(), 0);
        x.errand(1, 1, 2, -1);
        x.plan(1);
        due("19: one move", x.digest(), 3);
        x.errand(0, 1, 1, -1);
        x.plan(0);
        due("19: by number", x.digest(), (3 * 31 + 4) * 31 + 3);
        CartFloor y = held(399, false);
        y.plan(0);
        long sum = 0;
        for (int c = 0; c < 2; c++) {
            for (int t = 0; t < 400; t++) {
                sum = sum * 31 + y.at(c, t, 3) + 1;
            }
        }
        due("19: going round", y.digest(), sum);
    }

    private static CartFloor threeCarts() {
        CartFloor x = new CartFloor(4, 3);
        x.lay(1, 1, 1);
        x.lay(0, 2, 2);
        x.cart(PLAIN, 0, 0, EAST);
        x.cart(LIFTER, 3, 2, EAST);
        x.cart(PLAIN, 3, 0, EAST);
        return x;
    }

    private static void safe() {
        CartFloor x = threeCarts();
        due("20: without errands", x.safe() ? 1 : 0, 1);
        x.errand(0, 2, 0, -1);
        due("20: a path", x.safe() ? 1 : 0, 1);
        x.errand(1, 3, 1, -1);
        x.errand(2, 3, 0, -1);
        due("20: its own square", x.safe() ? 1 : 0, 1);
        due("20: then many() finds all", x.many(), 3);
        CartFloor y = threeCarts();
        y.errand(0, 2, 0, -1);
        y.errand(1, 2, 0, -1);
        due("20: two end squares are one", y.safe() ? 1 : 0, 0);
        CartFloor z = threeCarts();
        z.errand(0, 3, 0, -1);
        due("20: another cart stands on it", z.safe() ? 1 : 0, 0);
        CartFloor w = threeCarts();
        w.errand(0, 2, 1, -1);
        w.errand(1, 1, 2, -1);
        due("20: two paths", w.safe() ? 1 : 0, 1);
        w.errand(2, 0, 1, -1);
        due("20: others and their end squares are in the way", w.safe() ? 1 : 0, 0);
        CartFloor v = new CartFloor(3, 2);
        v.lay(1, 0, 2);
        v.lay(1, 1, 1);
        v.shelf(1, 0);
        v.cart(LIFTER, 0, 0, EAST);
        v.errand(0, 2, 0, -1);
        due("20: a shelf is in the way", v.safe() ? 1 : 0, 0);
        CartFloor u = new CartFloor(3, 2);
        u.lay(0, 0, 2);
        u.shelf(0, 0);
        u.cart(LIFTER, 0, 0, EAST);
        due("20: no errand yet", u.safe() ? 1 : 0, 1);
        u.errand(0, 2, 0, -1);
        due("20: a shelf on the first square", u.safe() ? 1 : 0, 0);
        CartFloor s = new CartFloor(3, 2);
        s.lay(0, 0, 2);
        s.lay(2, 0, 2);
        s.shelf(0, 0);
        s.cart(LIFTER, 1, 0, EAST);
        s.errand(0, 2, 0, 0);
        due("20: an errand with a shelf", s.safe() ? 1 : 0, 0);
        CartFloor r = new CartFloor(3, 2);
        r.lay(1, 0, 1);
        r.lay(1, 1, 1);
        r.cart(PLAIN, 2, 0, EAST);
        r.errand(0, 0, 0, -1);
        due("20: no path to the first square", r.safe() ? 1 : 0, 0);
        CartFloor l = new CartFloor(3, 2);
        l.cart(LONG, 1, 0, EAST);
        due("20: a long", l.safe() ? 1 : 0, 0);
        CartFloor g = new CartFloor(3, 2);
        g.cart(GUEST, 1, 0, EAST);
        due("20: a guest", g.safe() ? 1 : 0, 0);
        CartFloor b = new CartFloor(3, 3);
        b.row(1, true);
        b.cart(PLAIN, 0, 0, EAST);
        b.errand(0, 0, 2, -1);
        due("20: a missing row is in the way", b.safe() ? 1 : 0, 0);
        CartFloor c = new CartFloor(3, 2);
        c.lay(1, 1, 1);
        c.cart(PLAIN, 0, 0, EAST);
        c.cart(PLAIN, 1, 0, EAST);
        c.errand(0, 2, 0, -1);
        due("20: a cart is in the way", c.safe() ? 1 : 0, 0);
    }

    private static void few() {
        CartFloor x = new CartFloor(2, 2);
        x.cart(PLAIN, 0, 0, EAST);
        x.cart(LIFTER, 1, 0, EAST);
        x.cart(PLAIN, 0, 1, EAST);
        x.errand(0, 1, 0, -1);
        due("21: one has no errand", x.few(0, 1, -1), -2);
        x.errand(1, 0, 0, -1);
        due("21: two change places, the third stays", x.few(0, 1, -1), -1);
        due("21: the same", x.few(0, 0, -1), -2);
        due("21: the same third", x.few(0, 1, 1), -2);
        due("21: the third has no errand", x.few(0, 1, 2), -2);
        due("21: no cart", x.few(0, 3, -1), -2);
        due("21: no cart first", x.few(-1, 0, -1), -2);
        due("21: no cart third", x.few(0, 1, -2), -2);
        due("21: no cart third", x.few(0, 1, MAX), -2);
        x.errand(2, 0, 1, -1);
        due("21: three can only go round", x.few(0, 1, 2), -1);
        String before = view(x);
        x.few(2, 1, 0);
        same("21: few", view(x), before);
        CartFloor y = new CartFloor(2, 2);
        y.cart(PLAIN, 0, 0, EAST);
        y.cart(PLAIN, 1, 0, EAST);
        y.errand(0, 1, 0, -1);
        y.errand(1, 0, 0, -1);
        due("21: two change places in four squares", y.few(0, 1, -1), 4);
        due("21: asked again", y.few(1, 0, -1), 4);
        CartFloor z = new CartFloor(3, 2);
        z.row(1, true);
        z.cart(PLAIN, 0, 0, EAST);
        z.cart(PLAIN, 2, 0, EAST);
        z.errand(0, 2, 0, -1);
        z.errand(1, 0, 0, -1);
        due("21: none in a row of three", z.few(0, 1, -1), -1);
        CartFloor big = new CartFloor(7, 3);
        big.cart(PLAIN, 0, 0, EAST);
        big.cart(PLAIN, 1, 0, EAST);
        big.errand(0, 6, 2, -1);
        big.errand(1, 5, 2, -1);
        due("21: 21 squares", big.few(0, 1, -1), -2);
        CartFloor less = new CartFloor(7, 3);
        less.lay(3, 1, 1);
        less.cart(PLAIN, 0, 0, EAST);
        less.cart(PLAIN, 1, 0, EAST);
        less.errand(0, 6, 2, -1);
        less.errand(1, 5, 2, -1);
        due("21: 20 squares", less.few(0, 1, -1), 14);
        less.plan(0);
        due("21: from tick 0 on, whatever is planned", less.few(0, 1, -1), 14);
        CartFloor l = new CartFloor(4, 4);
        l.cart(PLAIN, 0, 0, EAST);
        l.cart(LONG, 3, 3, EAST);
        l.errand(0, 1, 0, -1);
        l.errand(1, 2, 2, -1);
        due("21: a long", l.few(0, 1, -1), -2);
        CartFloor three = new CartFloor(5, 2);
        three.cart(PLAIN, 0, 0, EAST);
        three.cart(PLAIN, 4, 0, WEST);
        three.cart(PLAIN, 2, 1, WEST);
        three.errand(0, 4, 0, -1);
        three.errand(1, 0, 0, -1);
        three.errand(2, 2, 1, -1);
        due("21: the one in the way stays", three.few(0, 1, -1), 11);
        due("21: nor is it worth its while to move", three.few(0, 1, 2), 11);
        three.dawn();
        three.errand(0, 0, 1, -1);
        three.errand(1, 4, 1, -1);
        three.errand(2, 0, 0, -1);
        due("21: others the next day", three.few(0, 1, 2), 1 + 1 + 3);
        due("21: two of them", three.few(2, 0, -1), 4);
        CartFloor two = new CartFloor(5, 2);
        two.cart(PLAIN, 0, 0, EAST);
        two.cart(PLAIN, 0, 1, EAST);
        two.cart(PLAIN, 2, 0, WEST);
        two.cart(LONG, 3, 1, EAST);
        two.errand(0, 4, 0, -1);
        two.errand(1, 1, 1, -1);
        due("21: two others shut the way", two.few(0, 1, -1), -1);
        CartFloor wall = new CartFloor(4, 2);
        wall.lay(2, 0, 1);
        wall.lay(2, 1, 1);
        wall.cart(PLAIN, 0, 0, EAST);
        wall.cart(PLAIN, 0, 1, EAST);
        wall.errand(0, 3, 0, -1);
        wall.errand(1, 1, 1, -1);
        due("21: walls shut the way", wall.few(0, 1, -1), -1);
    }

    private static void fewShelves() {
        CartFloor x = new CartFloor(3, 3);
        x.lay(1, 0, 2);
        x.lay(1, 1, 2);
        x.shelf(1, 0);
        x.shelf(1, 1);
        x.cart(PLAIN, 0, 0, EAST);
        x.cart(LIFTER, 0, 1, EAST);
        x.errand(0, 2, 0, -1);
        x.errand(1, 1, 1, -1);
        due("21: the plain goes around, the lifter below", x.few(0, 1, -1), 6 + 1);
        CartFloor y = new CartFloor(3, 3);
        y.lay(1, 0, 2);
        y.lay(0, 1, 2);
        y.shelf(1, 0);
        y.cart(LIFTER, 0, 0, EAST);
        y.cart(LIFTER, 2, 2, EAST);
        y.errand(0, 0, 1, 0);
        y.errand(1, 2, 1, -1);
        due("21: an errand with a shelf", y.few(0, 1, -1), -2);
        y.plan(0);
        y.stop(0, 2);
        y.dawn();
        y.errand(0, 0, 1, -1);
        y.errand(1, 2, 1, -1);
        due("21: one carries a shelf at tick 0", y.few(0, 1, -1), -2);
    }

    private static CartFloor kinds() {
        CartFloor x = new CartFloor(4, 4);
        x.lay(0, 3, 2);
        x.lay(1, 3, 2);
        x.shelf(0, 3);
        x.shelf(1, 3);
        x.cart(PLAIN, 0, 0, EAST);
        x.cart(LIFTER, 0, 1, EAST);
        x.cart(LONG, 3, 1, SOUTH);
        x.cart(GUEST, 3, 3, SOUTH);
        return x;
    }

    private static void hang() {
        CartFloor x = kinds();
        due("22: sort -1", x.hang(0, -1, 0), -2);
        due("22: sort 3", x.hang(0, 3, 0), -2);
        due("22: sort before hook", x.hang(10, 3, 0), -2);
        due("22: no hook -1", x.hang(-1, 1, 0), -11);
        due("22: no hook 10", x.hang(10, 1, 0), -11);
        due("22: hook before thing", x.hang(10, 1, 9), -11);
        due("22: no cart 4", x.hang(0, 1, 4), -10);
        due("22: no cart -1", x.hang(0, 1, -1), -10);
        due("22: no shelf 2", x.hang(0, 2, 2), -10);
        due("22: no shelf -1", x.hang(0, 2, -1), -10);
        due("22: a cart", x.hang(0, 1, 3), 0);
        due("22: a shelf for it", x.hang(0, 2, 1), 1);
        due("22: refused", x.hang(0, 1, 9), -10);
        due("22: it stays", x.take(0, 4), 1);
        due("22: nothing for it", x.hang(0, 0, MIN), 2);
        due("22: nothing there", x.take(0, 4), -10);
        due("22: nothing for nothing", x.hang(9, 0, 99), 0);
        due("22: the last hook", x.hang(9, 1, 0), 0);
        x.dawn();
        due("22: it hangs at dawn too", x.take(9, 0), 0);
    }

    private static void take() {
        CartFloor x = kinds();
        for (int c = 0; c < 4; c++) {
            x.hang(c, 1, c);
        }
        x.hang(4, 2, 1);
        for (int k = 0; k < 5; k++) {
            for (int kind = 0; kind < 5; kind++) {
                boolean right = k < 4 ? kind <= k : kind == 4;
                due("23: take(" + k + ", " + kind + ")", x.take(k, kind), right ? k < 4 ? k : 1 : -12);
            }
        }
        due("23: kind -1", x.take(0, -1), -2);
        due("23: kind 5", x.take(0, 5), -2);
        due("23: kind before hook", x.take(10, 5), -2);
        due("23: no hook -1", x.take(-1, 0), -11);
        due("23: no hook 10", x.take(10, 0), -11);
        due("23: nothing", x.take(5, 0), -10);
        due("23: nothing, as a shelf", x.take(5, 4), -10);
        due("23: it still hangs", x.take(0, 0), 0);
    }

    private static void weight() {
        CartFloor x = kinds();
        for (int c = 0; c < 4; c++) {
            x.hang(c, 1, c);
        }
        x.hang(4, 2, 0);
        x.hang(5, 2, 1);
        int[] want = {10, 15, 30, 12, 5, 6, -10, -10, -10, -10};
        for (int k = 0; k < 10; k++) {
            due("24: weight(" + k + ")", x.weight(k), want[k]);
        }
        due("24: no hook -1", x.weight(-1), -11);
        due("24: no hook 10", x.weight(10), -11);
        x.errand(1, 0, 3, 1);
        due("24: planned", x.plan(1) > 0 ? 1 : 0, 0);
        x.dawn();
        x.errand(1, 1, 3, 1);
        due("24: planned", x.plan(1), 5);
        due("24: behind its way it carries none", x.weight(1), 15);
        due("24: stopped as it carries", x.stop(1, 4), 0);
        due("24: then it does", x.weight(1), 21);
        x.dawn();
        due("24: the next day, too", x.weight(1), 21);
    }

    private static void mark() {
        CartFloor x = new CartFloor(3, 3);
        x.row(2, true);
        due("25: mark", x.mark(2, 1, 127), 1000);
        due("25: greatest", x.mark(2, 1, 128), 1127);
        due("25: least", x.mark(2, 1, -129), 872);
        due("25: its lowest byte", x.mark(2, 1, 256), 1127);
        due("25: zero", x.mark(2, 1, MAX), 1000);
        due("25: all ones", x.mark(2, 1, MIN), 999);
        due("25: none", x.mark(2, 1, 5), 1000);
        due("25: no row -1", x.mark(0, -1, 1), -11);
        due("25: no row 3", x.mark(0, 3, 1), -11);
        due("25: missing", x.mark(0, 2, 1), -10);
        due("25: missing before no square", x.mark(9, 2, 1), -10);
        due("25: no square -1", x.mark(-1, 1, 1), -11);
        due("25: no square 3", x.mark(3, 1, 1), -11);
        due("25: nothing was done", x.mark(2, 1, 0), 1005);
        due("25: nor beside it", x.mark(0, 2 - 1, 0), 1000);
        x.cart(PLAIN, 0, 0, 0);
        due("25: with a cart there, too", x.mark(0, 0, 3), 1000);
    }

    private static void copy() {
        CartFloor x = new CartFloor(4, 3);
        for (int i = 0; i < 4; i++) {
            x.mark(i, 0, i + 1);
            x.mark(i, 1, -10);
        }
        due("26: copy", x.copy(0, 1, 1, 0, 2), 10000 + 2 + 3 - 20);
        due("26: come there", x.mark(0, 1, 2), 1002);
        due("26: and there", x.mark(1, 1, 3), 1003);
        due("26: the rest stays", x.mark(2, 1, -10), 990);
        due("26: the first row stays", x.copy(0, 0, 0, 0, 4), 10010);
        due("26: onto itself, up", x.copy(0, 0, 0, 1, 3), 10000 + 1 + 1 + 2 + 3);
        due("26: all as they were before", x.mark(3, 0, 3), 1003);
        due("26: onto itself, down", x.copy(0, 1, 0, 0, 3), 10000 + 1 + 2 + 3 + 3);
        due("26: none", x.copy(0, 4, 1, 4, 0), 10000 + 2 + 3 - 20);
        due("26: no row -1", x.copy(-1, 0, 0, 0, 1), -11);
        due("26: no row 3", x.copy(3, 0, 0, 0, 1), -11);
        due("26: no other -1", x.copy(0, 0, -1, 0, 1), -11);
        due("26: no other 3", x.copy(0, 0, 3, 0, 1), -11);
        x.row(2, true);
        due("26: missing", x.copy(2, 0, 0, 0, 1), -10);
        due("26: other missing", x.copy(0, 0, 2, 0, 1), -10);
        due("26: no row before missing", x.copy(2, 0, 3, 0, 1), -11);
        due("26: missing before range", x.copy(2, -1, 0, 0, 1), -10);
        due("26: x -1", x.copy(0, -1, 1, 0, 1), -11);
        due("26: place -1", x.copy(0, 0, 1, -1, 1), -11);
        due("26: n -1", x.copy(0, 1, 1, 1, -1), -11);
        due("26: x and n 5", x.copy(0, 2, 1, 0, 3), -11);
        due("26: place and n 5", x.copy(0, 0, 1, 2, 3), -11);
        due("26: x MAX", x.copy(0, MAX, 1, 0, MAX), -11);
        due("26: place MAX", x.copy(0, 0, 1, MAX, MAX), -11);
        due("26: n MIN", x.copy(0, 0, 1, 0, MIN), -11);
        due("26: x 5, n 0", x.copy(0, 5, 1, 0, 0), -11);
        due("26: nothing was done", x.copy(1, 0, 1, 0, 4), 10000 + 2 + 3 - 20);
    }

    private static void line() {
        CartFloor x = kinds();
        due("27: no line yet", x.mean(1), -10);
        due("27: kind -1", x.line(-1, 1), -2);
        due("27: kind 4", x.line(4, 1), -2);
        due("27: 41", x.line(0, 41), -2);
        due("27: MAX", x.line(0, MAX), -2);
        due("27: -1", x.line(0, -1), -13);
        due("27: MIN", x.line(3, MIN), -13);
        due("27: kind before size", x.line(4, -1), -2);
        due("27: still none", x.mean(1), -10);
        due("27: none", x.line(0, 0), 0);
        due("27: there is one", x.mean(1), 0);
        due("27: no place in it", x.slot(0, 0), -11);
        due("27: 40", x.line(1, 40), 40);
        due("27: the last place", x.slot(39, 1), 1);
        due("27: the old one stays", x.line(0, -1), -13);
        due("27: with its places", x.slot(38, 2), 2);
        due("27: a new one is empty", x.line(1, 40), 40);
        due("27: the first in it", x.slot(0, 2), 1);
    }

    private static void slot() {
        CartFloor x = kinds();
        due("28: no line", x.slot(0, 0), -10);
        due("28: no cart before no line", x.slot(0, 4), -2);
        for (int kind = 0; kind < 4; kind++) {
            x.line(kind, 4);
            int n = 0;
            for (int c = 0; c < 4; c++) {
                n += c >= kind ? 1 : 0;
                due("28: cart " + c + " in a line of " + kind, x.slot(c, c), c >= kind ? n : -14);
            }
        }
        x.line(2, 3);
        due("28: no cart -1", x.slot(0, -1), -2);
        due("28: no cart 4", x.slot(0, 4), -2);
        due("28: no place -1", x.slot(-1, 2), -11);
        due("28: no place 3", x.slot(3, 2), -11);
        due("28: place before kind", x.slot(3, 0), -11);
        due("28: kind", x.slot(0, 0), -14);
        due("28: twice the same cart", x.slot(0, 2), 1);
        due("28: at two places", x.slot(1, 2), 2);
        due("28: another one for it", x.slot(1, 3), 2);
        x.dawn();
        due("28: they stay at dawn", x.slot(2, 3), 3);
    }

    private static void mean() {
        CartFloor x = new CartFloor(5, 3);
        x.cart(PLAIN, 0, 0, EAST);
        x.cart(PLAIN, 0, 2, EAST);
        due("29: no line", x.mean(1), -10);
        due("29: no line before 0", x.mean(0), -10);
        x.line(0, 5);
        due("29: empty", x.mean(3), 0);
        x.slot(0, 0);
        x.slot(2, 1);
        x.slot(4, 0);
        x.errand(0, 3, 0, -1);
        x.errand(1, 1, 2, -1);
        due("29: planned", x.many(), 2);
        due("29: sum", x.mean(1), 7);
        due("29: half", x.mean(2), 3);
        due("29: below 0", x.mean(-2), -3);
        due("29: -1", x.mean(-1), -7);
        due("29: more", x.mean(8), 0);
        due("29: MIN", x.mean(MIN), 0);
        due("29: 0", x.mean(0), -15);
        due("29: still", x.mean(7), 1);
        x.dawn();
        due("29: at dawn the ends are 0", x.mean(1), 0);
    }
}
