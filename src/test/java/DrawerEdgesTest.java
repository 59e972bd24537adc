/** Promises 1 to 6 and 9, and the terms behind them: each sentence that names an edge, by a test of its own. */
public final class DrawerEdgesTest {
    private static final int[] OUTSIDE_PLACES = {-1, 6, 7, 100, Straws.LEAST, Straws.GREATEST};

    public static void main(String[] args) {
        Check.sentence("1: nobody", DrawerEdgesTest::nobodyAtFirst);
        Check.sentence("1: no hut", DrawerEdgesTest::noHutAtFirst);
        Check.sentence("terms: night 0 at first", DrawerEdgesTest::nightAtFirst);
        Check.sentence("terms: the fist is whole at first", DrawerEdgesTest::wholeAtFirst);
        drawers();
        of();
        sent();
        row();
        place();
        told();
        wholeFists();
        Check.end("DrawerEdgesTest");
    }

    // ---- a new object

    private static void nobodyAtFirst() {
        ShortStraw straw = new ShortStraw();
        Check.due("count", straw.count(0), 0);
        Check.due("of the first", straw.of(0, 0), -1);
    }

    private static void noHutAtFirst() {
        ShortStraw straw = new ShortStraw();
        Check.due("huts", straw.count(1), 0);
        Check.due("text", straw.count(4), 0);
        straw.drawer(0, 0);
        Check.due("plain", straw.of(0, 4), 10);
    }

    private static void nightAtFirst() {
        Check.due("night", new ShortStraw().told(0), 0);
    }

    private static void wholeAtFirst() {
        ShortStraw straw = new ShortStraw();
        Check.due("short", straw.told(1), 1);
        Check.due("long", straw.told(2), 0);
        Check.due("drawn", straw.told(3), 0);
    }

    // ---- drawer

    private static void drawers() {
        Check.sentence("2: NONE: kind below", () -> {
            Check.due("-1", new ShortStraw().drawer(-1, 0), -1);
            Check.due("least", new ShortStraw().drawer(Straws.LEAST, 0), -1);
        });
        Check.sentence("2: NONE: kind above", () -> {
            Check.due("7", new ShortStraw().drawer(7, 0), -1);
            Check.due("greatest", new ShortStraw().drawer(Straws.GREATEST, 0), -1);
        });
        Check.sentence("terms: kinds 0 to 6", () -> {
            Check.due("0", new ShortStraw().drawer(0, 0), 0);
            Check.due("6", new ShortStraw().drawer(6, 0), 0);
        });
        Check.sentence("2: BAD: v below", () -> {
            Check.due("-1", new ShortStraw().drawer(0, -1), -2);
            Check.due("least", new ShortStraw().drawer(0, Straws.LEAST), -2);
        });
        Check.sentence("2: BAD: v above", () -> {
            Check.due("10", new ShortStraw().drawer(0, 10), -2);
            Check.due("greatest", new ShortStraw().drawer(0, Straws.GREATEST), -2);
        });
        Check.sentence("terms: v 0 to 9", () -> {
            Check.due("v least", Straws.kinds(0, 0).of(0, 1), 0);
            Check.due("v greatest", Straws.kinds(9, 0).of(0, 1), 9);
        });
        Check.sentence("2: FULL: 6", DrawerEdgesTest::sixDrawers);
        Check.sentence("terms: a new one comes last", DrawerEdgesTest::newOneIsLast);
        Check.sentence("terms: sent 0 at first", () -> Check.due("sent", Straws.blind(1).of(0, 2), 0));
    }

    private static void sixDrawers() {
        ShortStraw straw = new ShortStraw();
        for (int d = 0; d < 6; d++) {
            Check.due("drawer", straw.drawer(0, 0), d);
        }
        Check.due("the seventh", straw.drawer(0, 0), -4);
        Check.due("count", straw.count(0), 6);
    }

    private static void newOneIsLast() {
        ShortStraw straw = Straws.blind(3);
        straw.place(2, 0);
        straw.drawer(3, 0);
        Check.due("place", straw.of(3, 3), 3);
        Check.due("the last", straw.told(13), 3);
        Check.due("the first stays", straw.told(10), 2);
    }

    // ---- of, sent, row

    private static void of() {
        Check.sentence("3: NONE: no such drawer", () -> {
            for (int d : new int[] {-1, 2, 6, Straws.LEAST, Straws.GREATEST}) {
                Check.due("of " + d, Straws.blind(2).of(d, 0), -1);
            }
            Check.due("the last one", Straws.blind(2).of(1, 0), 3);
        });
        Check.sentence("3: NONE: no such what", () -> {
            for (int what : new int[] {-1, 6, Straws.LEAST, Straws.GREATEST}) {
                Check.due("what " + what, Straws.blind(2).of(0, what), -1);
            }
            Check.due("the last what", Straws.blind(2).of(0, 5), 500000);
        });
    }

    private static void sent() {
        Check.sentence("4: NONE", () -> {
            for (int d : new int[] {-1, 2, 6, Straws.LEAST, Straws.GREATEST}) {
                Check.due("sent " + d, Straws.blind(2).sent(d, 0), -1);
            }
        });
        Check.sentence("4: BAD: below 0", () -> {
            Check.due("-1", Straws.blind(1).sent(0, -1), -2);
            Check.due("least", Straws.blind(1).sent(0, Straws.LEAST), -2);
        });
        Check.sentence("4: BAD: above 999", () -> {
            Check.due("1000", Straws.blind(1).sent(0, 1000), -2);
            Check.due("greatest", Straws.blind(1).sent(0, Straws.GREATEST), -2);
        });
        Check.sentence("4: n 0 to 999", () -> {
            ShortStraw straw = Straws.blind(1);
            Check.due("was at first", straw.sent(0, 999), 0);
            Check.due("was the greatest", straw.sent(0, 0), 999);
            Check.due("is the least", straw.of(0, 2), 0);
        });
    }

    private static void row() {
        Check.sentence("5: NONE: drawer", () -> {
            for (int d : new int[] {-1, 1, 6, Straws.LEAST, Straws.GREATEST}) {
                Check.due("row of " + d, Straws.kinds(0, 6).row(d, 0, 0), -1);
            }
        });
        Check.sentence("5: NONE: part", () -> {
            for (int part : new int[] {-1, 4, Straws.LEAST, Straws.GREATEST}) {
                Check.due("part " + part, Straws.kinds(0, 6).row(0, part, 0), -1);
            }
        });
        Check.sentence("5: BAD: n", () -> {
            for (int n : new int[] {-1, 10, Straws.LEAST, Straws.GREATEST}) {
                Check.due("n " + n, Straws.kinds(0, 6).row(0, 0, n), -2);
            }
        });
        Check.sentence("5: STATE: another kind", () -> {
            for (int kind = 0; kind < 6; kind++) {
                Check.due("kind " + kind, Straws.kinds(0, kind).row(0, 0, 0), -3);
            }
        });
        Check.sentence("terms: the row's numbers are 5 at first", () -> {
            for (int part = 0; part < 4; part++) {
                Check.due("part " + part, Straws.kinds(0, 6).row(0, part, 0), 5);
            }
        });
        Check.sentence("5: n 0 to 9, part 0 to 3", DrawerEdgesTest::rowOfAll);
    }

    private static void rowOfAll() {
        ShortStraw straw = Straws.kinds(0, 6);
        straw.row(0, 0, 0);
        straw.row(0, 3, 9);
        Check.due("the first was", straw.row(0, 0, 9), 0);
        Check.due("the last was", straw.row(0, 3, 0), 9);
        Check.due("one between was", straw.row(0, 1, 1), 5);
    }

    // ---- place

    private static void place() {
        Check.sentence("6: NONE: drawer", () -> {
            for (int d : new int[] {-1, 2, 6, Straws.LEAST, Straws.GREATEST}) {
                Check.due("drawer " + d, Straws.blind(2).place(d, 0), -1);
            }
        });
        Check.sentence("6: NONE: k", () -> {
            for (int k : new int[] {-1, 2, 6, Straws.LEAST, Straws.GREATEST}) {
                Check.due("k " + k, Straws.blind(2).place(0, k), -1);
            }
        });
        Check.sentence("6: to the first place", () -> {
            ShortStraw straw = Straws.blind(6);
            Check.due("before", straw.place(5, 0), 5);
            order(straw, 5, 0, 1, 2, 3, 4);
        });
        Check.sentence("6: to the last place", () -> {
            ShortStraw straw = Straws.blind(6);
            Check.due("before", straw.place(0, 5), 0);
            order(straw, 1, 2, 3, 4, 5, 0);
        });
        Check.sentence("6: to the place that it has", () -> {
            ShortStraw straw = Straws.blind(3);
            Check.due("before", straw.place(1, 1), 1);
            order(straw, 0, 1, 2);
        });
        Check.sentence("6: the only one", () -> {
            ShortStraw straw = Straws.blind(1);
            Check.due("before", straw.place(0, 0), 0);
            order(straw, 0);
        });
    }

    private static void order(ShortStraw straw, int... drawers) {
        for (int k = 0; k < drawers.length; k++) {
            Check.due("place " + k, straw.told(10 + k), drawers[k]);
        }
    }

    // ---- told

    private static void told() {
        Check.sentence("9: NONE: below, and between 4 and 10", () -> {
            for (int what : new int[] {-1, 5, 6, 7, 8, 9, Straws.LEAST, -10, -6}) {
                Check.due("told " + what, Straws.blind(6).told(what), -1);
            }
        });
        Check.sentence("9: NONE: no k-th of the order", () -> {
            for (int k : OUTSIDE_PLACES) {
                Check.due("told 10 and " + k, Straws.blind(6).told(10 + k), -1);
            }
            Check.due("a third of two", Straws.blind(2).told(12), -1);
            Check.due("the second of two", Straws.blind(2).told(11), 1);
            Check.due("the first of nobody", new ShortStraw().told(10), -1);
        });
        Check.sentence("9: -5: nobody is there", () -> {
            Check.due("nobody", new ShortStraw().told(4), -5);
            Check.due("one", Straws.blind(1).told(4), 0);
        });
    }

    // ---- when the fist is whole

    /** Three of six have drawn, one of two short ones is gone. */
    private static ShortStraw inANight() {
        ShortStraw straw = Straws.with("short 2", Straws.blind(5));
        straw.draw(999999);
        straw.draw(0);
        straw.draw(999999);
        return straw;
    }

    private static void left(ShortStraw straw, int shorts, int longs, int drawn) {
        Check.due("short", straw.told(1), shorts);
        Check.due("long", straw.told(2), longs);
        Check.due("drawn", straw.told(3), drawn);
        Check.due("next", straw.told(4), straw.told(10 + drawn));
    }

    private static void wholeFists() {
        Check.sentence("terms: whole whenever a drawer comes", () -> {
            ShortStraw straw = inANight();
            left(straw, 1, 1, 3);
            straw.drawer(0, 0);
            left(straw, 2, 4, 0);
        });
        Check.sentence("terms: whole whenever a hut comes to hold", () -> {
            ShortStraw straw = Straws.with("more 1", inANight());
            left(straw, 1, 5, 0);
        });
        Check.sentence("terms: whole whenever the order is told", () -> {
            ShortStraw straw = inANight();
            straw.place(0, 3);
            left(straw, 2, 3, 0);
        });
        Check.sentence("terms: whole also if the order stays by it", () -> {
            ShortStraw straw = inANight();
            straw.place(0, 0);
            left(straw, 2, 3, 0);
        });
        Check.sentence("terms: whole whenever a night ends", () -> {
            ShortStraw straw = inANight();
            straw.draw(0);
            left(straw, 2, 3, 0);
        });
        Check.sentence("terms: the night is no further by a whole fist", () -> {
            ShortStraw straw = inANight();
            straw.drawer(0, 0);
            straw.place(0, 1);
            Check.due("night", Straws.with("more 1", straw).told(0), 0);
        });
        Check.sentence("terms: not whole by anything else", DrawerEdgesTest::notWhole);
    }

    private static void notWhole() {
        ShortStraw straw = inANight();
        straw.sent(0, 7);
        straw.see(1, true);
        straw.book(1);
        straw.feed('x');
        Check.due("a fault", straw.hut(), -10);
        Check.due("no such place", straw.place(0, 5), -1);
        Check.due("no such kind", straw.drawer(7, 0), -1);
        straw.tape(0, 2, 5);
        straw.image();
        left(straw, 1, 1, 3);
        straw.undo();
        left(straw, 1, 1, 3);
    }
}
