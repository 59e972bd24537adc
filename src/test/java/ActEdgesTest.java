/** Promises 29 to 34, and the terms behind them: each sentence that names an edge, by a test of its own. */
public final class ActEdgesTest {
    private static final int[] NOBODIES = {-1, 2, 6, Straws.LEAST, Straws.GREATEST};
    private static final int LEAST = Integer.MIN_VALUE, GREATEST = Integer.MAX_VALUE;

    public static void main(String[] args) {
        images();
        undone();
        acts();
        wraps();
        traces();
        taken();
        counts();
        Check.end("ActEdgesTest");
    }

    // ---- image, undo

    private static void images() {
        Check.sentence("29: nobody", () -> Check.due("image", new ShortStraw().image(), 0));
        Check.sentence("29: six", () -> Check.due("image", Straws.blind(6).image(), 6));
        Check.sentence("30: STATE: there is none", () -> {
            Check.due("a new object", new ShortStraw().undo(), -3);
            Check.due("three", Straws.blind(3).undo(), -3);
        });
        Check.sentence("30: an image of nobody", () -> {
            ShortStraw straw = new ShortStraw();
            straw.image();
            straw.drawer(3, 0);
            straw.draw(0);
            Check.due("undo", straw.undo(), 0);
            Check.due("drawers", straw.count(0), 0);
            Check.due("night", straw.told(0), 0);
            Check.due("next", straw.told(4), -5);
        });
        Check.sentence("30: from six back to one", () -> {
            ShortStraw straw = Straws.blind(1);
            straw.image();
            for (int d = 1; d < 6; d++) {
                straw.drawer(0, 0);
            }
            Check.due("full", straw.drawer(0, 0), -4);
            Check.due("undo", straw.undo(), 1);
            Check.due("the sixth is gone", straw.of(5, 0), -1);
            Check.due("the second again", straw.drawer(0, 0), 1);
        });
        Check.sentence("30: undo twice by one image", () -> {
            ShortStraw straw = Straws.sent(4);
            straw.image();
            straw.sent(0, 5);
            straw.undo();
            straw.sent(0, 6);
            Check.due("undo", straw.undo(), 1);
            Check.due("sent", straw.of(0, 2), 4);
        });
        Check.sentence("29: a newer image in place of the older", () -> {
            ShortStraw straw = Straws.sent(4);
            straw.image();
            straw.sent(0, 5);
            straw.image();
            straw.sent(0, 6);
            straw.undo();
            Check.due("sent", straw.of(0, 2), 5);
        });
    }

    private static void undone() {
        Check.sentence("30: no hut holds, as none held", () -> {
            ShortStraw straw = Straws.blind(2);
            straw.image();
            Straws.with("short 2;more 9", straw);
            straw.undo();
            straw.place(0, 0);
            Check.due("short", straw.told(1), 1);
            Check.due("long", straw.told(2), 1);
        });
        Check.sentence("30: the huts stay, and six are full", () -> {
            ShortStraw straw = new ShortStraw();
            straw.image();
            for (int h = 0; h < 6; h++) {
                Straws.with("more 1", straw);
            }
            straw.undo();
            Check.due("huts", straw.count(1), 6);
            Check.due("a seventh", Straws.feed("more 1", straw).hut(), -4);
        });
        Check.sentence("30: a row as it was", () -> {
            ShortStraw straw = Straws.kinds(0, 6);
            straw.image();
            straw.row(0, 3, 9);
            straw.undo();
            Check.due("row", straw.row(0, 3, 0), 5);
        });
        Check.sentence("30: in the midst of a night", () -> {
            ShortStraw straw = Straws.with("short 2", Straws.blind(4));
            straw.draw(0);
            straw.image();
            straw.draw(0);
            straw.undo();
            Check.due("night", straw.told(0), 0);
            Check.due("short", straw.told(1), 1);
            Check.due("long", straw.told(2), 2);
            Check.due("drawn", straw.told(3), 1);
            Check.due("sent", straw.of(1, 2), 0);
        });
        Check.sentence("30: the order as it was, and who came in place of another", () -> {
            ShortStraw straw = Straws.kinds(4, 1);
            straw.image();
            straw.drawer(6, 9);
            straw.place(1, 0);
            straw.undo();
            Check.due("the only one", straw.told(10), 0);
            Check.due("another", straw.drawer(2, 7), 1);
            Check.due("kind", straw.of(1, 0), 2);
            Check.due("v", straw.of(1, 1), 7);
            Check.due("place", straw.of(1, 3), 1);
        });
        Check.sentence("30: seen as many as were", () -> {
            ShortStraw straw = Straws.seen(Straws.blind(2), 1, true);
            straw.image();
            straw.see(2, true);
            straw.undo();
            Check.due("seen", straw.count(2), 1);
            Check.due("the next", straw.see(3, true), 2);
        });
        Check.sentence("30: all that was seen and booked", () -> {
            ShortStraw straw = Straws.booked(Straws.seen(Straws.blind(6), 333333, true), 999999, 0);
            straw.image();
            straw.see(-1, true);
            straw.see(999999, false);
            straw.book(-1);
            straw.book(0);
            straw.undo();
            Check.due("seen", straw.fits(), 8);
            Check.due("looked", straw.looked(), 1);
        });
        Check.sentence("30: text, tapes and trace are none of the image", () -> {
            ShortStraw straw = Straws.blind(1);
            straw.image();
            Straws.tape(Straws.feed("mor", straw), 2, 7);
            straw.act(0, 2, 1);
            straw.undo();
            Check.due("bytes", straw.count(4), 3);
            Check.due("item", straw.read(0, 0), 7);
            Check.due("ran", straw.count(5), 6);
        });
    }

    // ---- acts

    private static void acts() {
        Check.sentence("31: 0: no such drawer", () -> {
            for (int d : NOBODIES) {
                Check.due("act of " + d, Straws.blind(2).act(d, 0, 7), 0);
            }
        });
        Check.sentence("31: 0: no such act", () -> {
            for (int act : new int[] {-1, 3, LEAST, GREATEST}) {
                Check.due("act " + act, Straws.blind(2).act(0, act, 7), 0);
            }
        });
        Check.sentence("31: no trace then, by no such drawer", () -> noTrace(2, 0));
        Check.sentence("31: no trace then, by no such act", () -> noTrace(0, 3));
        Check.sentence("31: the last drawer, the last act", () -> Check.due("act", Straws.blind(6).act(5, 2, 7), 30));
    }

    private static void noTrace(int drawer, int act) {
        ShortStraw straw = Straws.blind(2);
        straw.act(0, 1, 7);
        Check.due("ran", straw.count(5), 2);
        straw.act(drawer, act, 7);
        Check.due("none ran", straw.count(5), 0);
        Check.due("no first body", straw.trace(0), -1);
    }

    private static void wrap(String body, int v, int kind, int act, int x, int want) {
        Check.due("body " + body, Straws.kinds(v, kind, kind).act(1, act, x), want);
    }

    private static void wraps() {
        Check.sentence("terms: x wraps: x + i", () -> wrap("10", 0, 0, 0, GREATEST, LEAST));
        Check.sentence("terms: x wraps: less v", () -> wrap("11", 9, 0, 1, LEAST, LEAST + 1 - 9));
        Check.sentence("terms: x wraps: * 2", () -> wrap("12", 0, 0, 2, GREATEST - 1, -2));
        Check.sentence("terms: x wraps: x * 3", () -> wrap("30", 0, 2, 0, GREATEST, GREATEST - 1));
        Check.sentence("terms: x wraps: + shows(1)", () -> wrap("40", 0, 3, 2, (1 << 30) - 2, LEAST));
        Check.sentence("terms: x wraps: the least negated", () -> wrap("50", 0, 4, 0, GREATEST, LEAST));
        Check.sentence("terms: x wraps: x + 1", () -> wrap("51", 0, 4, 1, GREATEST, GREATEST ^ 6));
        Check.sentence("terms: x wraps: x - i", () -> wrap("60", 0, 5, 2, LEAST, (GREATEST * 3 + 1) * 2));
        Check.sentence("terms: x wraps: + super.draws(2)", () -> wrap("70", 0, 6, 1, GREATEST - 3, LEAST));
        Check.sentence("terms: ^ of one below 0", () -> {
            wrap("20", 0, 1, 1, -1, 6);
            wrap("71", 9, 6, 0, -2, ~9);
        });
    }

    // ---- the trace

    private static void traces() {
        Check.sentence("32: NONE: ahead of any act", () -> Check.due("trace", Straws.blind(1).trace(0), -1));
        Check.sentence("32: NONE: below", () -> {
            ShortStraw straw = Straws.blind(1);
            straw.act(0, 0, 1);
            Check.due("-1", straw.trace(-1), -1);
            Check.due("least", straw.trace(LEAST), -1);
        });
        Check.sentence("32: NONE: behind the last", () -> {
            ShortStraw straw = Straws.blind(1);
            straw.act(0, 1, 1);
            Check.due("the last", straw.trace(1), 10);
            Check.due("behind it", straw.trace(2), -1);
            Check.due("greatest", straw.trace(GREATEST), -1);
        });
        Check.sentence("32: the latest act alone", () -> {
            ShortStraw straw = Straws.blind(1);
            straw.act(0, 2, 1);
            straw.act(0, 0, 1);
            Check.due("the first", straw.trace(0), 10);
            Check.due("no second", straw.trace(1), -1);
        });
        // no act runs more than these 12, so that the 20 that are kept are never fewer than all
        Check.sentence("terms: the first 20 are kept", () -> {
            ShortStraw straw = Straws.kinds(0, 6);
            straw.act(0, 2, 1);
            int[] due = {40, 12, 70, 11, 71, 10, 10, 70, 11, 71, 10, 10, -1};
            for (int i = 0; i < due.length; i++) {
                Check.due("trace " + i, straw.trace(i), due[i]);
            }
            for (int i = 19; i < 23; i++) {
                Check.due("trace " + i, straw.trace(i), -1);
            }
        });
    }

    // ---- taken, count

    private static void taken() {
        Check.sentence("33: BAD: k", () -> {
            for (int k : new int[] {-1, 7, LEAST, GREATEST}) {
                Check.due("k " + k, Straws.blind(2).taken(0, k), -2);
            }
        });
        Check.sentence("33: k 0 to 6", () -> {
            Check.due("0", Straws.kinds(0, 0).taken(0, 0), 0);
            Check.due("6", Straws.kinds(0, 6).taken(0, 6), 6);
        });
        Check.sentence("33: NOTHING: no such drawer", () -> {
            for (int d : NOBODIES) {
                Check.due("taken " + d, Straws.blind(2).taken(d, 0), -11);
            }
        });
        Check.sentence("33: CAST: one above", () -> {
            Check.due("keen", Straws.kinds(0, 1).taken(0, 4), -12);
            Check.due("bold", Straws.kinds(0, 2).taken(0, 5), -12);
            Check.due("blind", Straws.kinds(0, 3).taken(0, 6), -12);
            for (int k = 1; k < 7; k++) {
                Check.due("drawer for " + k, Straws.kinds(0, 0).taken(0, k), -12);
            }
        });
        Check.sentence("33: CAST: one beside", () -> {
            Check.due("knowing for bold", Straws.kinds(0, 4).taken(0, 2), -12);
            Check.due("rash for blind", Straws.kinds(0, 5).taken(0, 3), -12);
            Check.due("told for keen", Straws.kinds(0, 6).taken(0, 1), -12);
            Check.due("told for knowing", Straws.kinds(0, 6).taken(0, 4), -12);
        });
        Check.sentence("33: one under that, by one and by two", () -> {
            Check.due("knowing for keen", Straws.kinds(0, 4).taken(0, 1), 4);
            Check.due("rash for bold", Straws.kinds(0, 5).taken(0, 2), 5);
            Check.due("told for blind", Straws.kinds(0, 6).taken(0, 3), 6);
            Check.due("told for drawer", Straws.kinds(0, 6).taken(0, 0), 6);
        });
    }

    private static void counts() {
        Check.sentence("34: BAD", () -> {
            for (int what : new int[] {-1, 6, LEAST, GREATEST}) {
                Check.due("count " + what, new ShortStraw().count(what), -2);
            }
        });
        Check.sentence("34: 0 of all at first", () -> {
            for (int what = 0; what < 6; what++) {
                Check.due("count " + what, new ShortStraw().count(what), 0);
            }
        });
    }
}
