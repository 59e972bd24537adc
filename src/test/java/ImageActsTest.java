/** Promises 29 to 34: the image, acts and their trace, who is taken for what, counts. */
public final class ImageActsTest {
    public static void main(String[] args) {
        undoOfNothing();
        undoOfAll();
        undoOfHuts();
        undoLeaves();
        acts();
        actsWrap();
        traceIsEmptied();
        taken();
        count();
        Check.end("ImageActsTest");
    }

    private static void undoOfNothing() {
        ShortStraw straw = new ShortStraw();
        Check.due("no image", straw.undo(), ShortStraw.STATE);
        Check.due("an image of nobody", straw.image(), 0);
        straw.drawer(0, 0);
        straw.draw(0);
        Check.due("nobody again", straw.undo(), 0);
        Check.due("nobody", straw.told(4), -5);
        Check.due("no night", straw.told(0), 0);
        Check.due("the first again", straw.drawer(1, 1), 0);
        Check.due("nobody once more", straw.undo(), 0);
    }

    private static void undoOfAll() {
        ShortStraw straw = new ShortStraw();
        straw.drawer(6, 1);
        straw.drawer(3, 2);
        straw.drawer(2, 3);
        straw.place(2, 0);
        straw.row(0, 1, 8);
        straw.sent(1, 40);
        straw.see(17, true);
        straw.book(999999);
        straw.draw(999999);
        straw.draw(0);
        straw.draw(999999);
        Check.due("image", straw.image(), 3);
        straw.draw(0);
        straw.drawer(5, 5);
        straw.place(3, 0);
        straw.row(0, 1, 2);
        straw.sent(1, 41);
        straw.sent(0, 9);
        straw.see(-1, true);
        straw.see(999999, false);
        straw.see(999999, false);
        straw.book(-1);
        Check.due("undo", straw.undo(), 3);
        Check.due("drawers", straw.count(0), 3);
        Check.due("order", straw.told(10), 2);
        Check.due("order, last", straw.told(12), 1);
        Check.due("night", straw.told(0), 1);
        Check.due("drawn", straw.told(3), 1);
        Check.due("long ones", straw.told(2), 1);
        Check.due("next", straw.told(4), 0);
        Check.due("sent", straw.of(1, 2), 40);
        Check.due("sent in that night", straw.of(0, 2), 1);
        Check.due("row", straw.row(0, 1, 8), 8);
        Check.due("seen", straw.count(2), 1);
        Check.due("fits as it was seen", straw.fits(), 14);
        Check.due("book", straw.count(3), 1);
        Check.due("looked", straw.looked(), -5);
        Check.due("the next one is the fourth", straw.drawer(0, 0), 3);
        Check.due("of its kind", straw.of(3, 0), 0);
        Check.due("undo once more", straw.undo(), 3);
        straw.sent(1, 1);
        Check.due("a newer image", straw.image(), 3);
        straw.sent(1, 2);
        straw.undo();
        Check.due("by the newer one", straw.of(1, 2), 1);
    }

    private static void undoOfHuts() {
        ShortStraw straw = new ShortStraw();
        straw.drawer(3, 0);
        straw.drawer(3, 0);
        straw.image();
        Check.hut(straw, "short 2", 0);
        Check.due("two short ones", straw.told(1), 2);
        straw.undo();
        Check.due("no hut holds", straw.told(1), 1);
        Check.due("but it is there", straw.count(1), 1);
        straw.drawer(3, 0);
        Check.due("a whole fist without it", straw.told(2), 2);
        Check.hut(straw, "more 3", 1);
        straw.image();
        Check.hut(straw, "more 4", 2);
        straw.undo();
        Check.due("the second holds", straw.told(2), 5);
        straw.place(0, 0);
        Check.due("it holds in the next fist", straw.told(2), 5);
        Check.hut(straw, "more 1", 3);
    }

    private static void undoLeaves() {
        ShortStraw straw = new ShortStraw();
        straw.drawer(0, 0);
        straw.image();
        straw.tape(0, 2, 1);
        straw.item(0, 0, 5);
        straw.feed('m');
        straw.act(0, 0, 1);
        straw.undo();
        Check.due("tapes", straw.read(0, 0), 5);
        Check.due("text", straw.count(4), 1);
        Check.due("trace", straw.trace(0), 10);
    }

    private static ShortStraw six(int kind, int v) {
        ShortStraw straw = new ShortStraw();
        for (int d = 0; d < 6; d++) {
            straw.drawer(kind, v);
        }
        return straw;
    }

    private static void act(int kind, int act, int want, int... bodies) {
        ShortStraw straw = six(kind, 3);
        Check.due("act " + kind + " " + act, straw.act(5, act, 20), want);
        Check.due("bodies that ran", straw.count(5), bodies.length);
        for (int i = 0; i < bodies.length; i++) {
            Check.due("trace " + kind + " " + act + " at " + i, straw.trace(i), bodies[i]);
        }
        Check.due("trace below", straw.trace(-1), ShortStraw.NONE);
        Check.due("trace beyond", straw.trace(bodies.length), ShortStraw.NONE);
        Check.due("trace far beyond", straw.trace(20), ShortStraw.NONE);
    }

    /** Drawer 5, v 3, x 20. */
    private static void acts() {
        act(0, 0, 25, 10);
        act(0, 1, 22, 11, 10);
        act(0, 2, 44, 12, 11, 10);
        act(1, 0, 25, 10);
        act(1, 1, 22 ^ 6, 20, 11, 10);
        act(1, 2, (22 ^ 6) * 2, 12, 20, 11, 10);
        act(2, 0, 65, 30, 10);
        act(2, 1, 62, 11, 30, 10);
        act(2, 2, 124, 12, 11, 30, 10);
        act(3, 0, 25, 10);
        act(3, 1, 22, 11, 10);
        act(3, 2, 44 + 3, 40, 12, 11, 10, 11, 10);
        act(4, 0, -25, 50, 10);
        act(4, 1, (-26 - 3) ^ 6, 51, 20, 11, 50, 10);
        act(4, 2, ((-26 - 3) ^ 6) * 2, 12, 51, 20, 11, 50, 10);
        act(5, 0, 65, 30, 10);
        act(5, 1, 62, 11, 30, 10);
        act(5, 2, (15 * 3 + 5 - 3) * 2, 60, 12, 11, 30, 10);
        act(6, 0, 25 ^ 3, 71, 10);
        act(6, 1, (25 ^ 3) - 3 + 7, 70, 11, 71, 10, 10);
        act(6, 2, ((25 ^ 3) - 3 + 7) * 2 + ((6 ^ 3) - 3 + 7),
            40, 12, 70, 11, 71, 10, 10, 70, 11, 71, 10, 10);
    }

    private static void actsWrap() {
        ShortStraw straw = six(0, 9);
        Check.due("greatest", straw.act(5, 0, Integer.MAX_VALUE), Integer.MIN_VALUE + 4);
        Check.due("least", straw.act(0, 1, Integer.MIN_VALUE), Integer.MAX_VALUE - 8);
        Check.due("twice", straw.act(0, 2, 1 << 30), (1 << 31) - 18);
        ShortStraw bold = six(2, 0);
        Check.due("thrice", bold.act(0, 0, 1 << 30), 3 << 30);
        ShortStraw knowing = six(4, 0);
        Check.due("less the least", knowing.act(0, 0, Integer.MIN_VALUE), Integer.MIN_VALUE);
    }

    private static void traceIsEmptied() {
        int[][] wrong = {{1, 0}, {-1, 0}, {0, 3}, {0, -1}};
        for (int[] call : wrong) {
            ShortStraw straw = new ShortStraw();
            straw.drawer(0, 0);
            straw.act(0, 2, 7);
            Check.due("three ran", straw.count(5), 3);
            Check.due("no such act", straw.act(call[0], call[1], 5), 0);
            Check.due("no trace", straw.trace(0), ShortStraw.NONE);
            Check.due("none ran", straw.count(5), 0);
        }
    }

    private static void taken() {
        String[] under = {"0", "01", "02", "03", "014", "025", "036"};
        for (int kind = 0; kind < 7; kind++) {
            ShortStraw straw = new ShortStraw();
            straw.drawer(kind, 0);
            for (int k = 0; k < 7; k++) {
                boolean isOne = under[kind].indexOf('0' + k) >= 0;
                Check.due("taken " + kind + " for " + k, straw.taken(0, k), isOne ? kind : -12);
            }
            Check.due("k below", straw.taken(1, -1), ShortStraw.BAD);
            Check.due("k above", straw.taken(1, 7), ShortStraw.BAD);
            Check.due("nobody", straw.taken(1, 0), -11);
            Check.due("nobody below", straw.taken(-1, 6), -11);
        }
    }

    private static void count() {
        ShortStraw straw = new ShortStraw();
        straw.drawer(0, 0);
        straw.drawer(0, 0);
        Check.hut(straw, "more 1", 0);
        straw.see(1, true);
        straw.see(2, true);
        straw.see(3, true);
        straw.book(1);
        straw.feed('x');
        straw.feed('y');
        straw.act(0, 1, 0);
        int[] want = {2, 1, 3, 1, 2, 2};
        for (int what = 0; what < 6; what++) {
            Check.due("count " + what, straw.count(what), want[what]);
        }
        Check.due("count below", straw.count(-1), ShortStraw.BAD);
        Check.due("count above", straw.count(6), ShortStraw.BAD);
    }
}
