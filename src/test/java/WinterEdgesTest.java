/** Promises 17 to 21, and the terms behind them: each sentence that names an edge, by a test of its own. */
public final class WinterEdgesTest {
    private static final long NO = Long.MIN_VALUE;
    private static final int[] NO_PARTS = {-1, 2, Straws.LEAST, Straws.GREATEST};

    public static void main(String[] args) {
        coinRefusals();
        coins();
        diceRefusals();
        dice();
        turns();
        uneven();
        most();
        Check.end("WinterEdgesTest");
    }

    // ---- coins

    private static void coin(int p, int m, long above, long below) {
        Check.due("coin above " + p + " " + m, new ShortStraw().coin(p, m, 0), above);
        Check.due("coin below " + p + " " + m, new ShortStraw().coin(p, m, 1), below);
    }

    private static void coinRefusals() {
        Check.sentence("17: NO: p", () -> {
            for (int p : new int[] {0, -1, 100, Straws.LEAST, Straws.GREATEST}) {
                Check.due("p " + p, new ShortStraw().coin(p, 2, 0), NO);
            }
        });
        Check.sentence("17: NO: m", () -> {
            for (int m : new int[] {0, -1, 17, Straws.LEAST, Straws.GREATEST}) {
                Check.due("m " + m, new ShortStraw().coin(50, m, 0), NO);
            }
        });
        Check.sentence("17: NO: part", () -> {
            for (int part : NO_PARTS) {
                Check.due("part " + part, new ShortStraw().coin(50, 2, part), NO);
            }
        });
        Check.sentence("17: NO: several of them", () -> Check.due("all", new ShortStraw().coin(0, 0, 2), NO));
    }

    private static void coins() {
        Check.sentence("17: p 1 to 99", () -> {
            coin(1, 2, 10000, 99);
            coin(99, 2, 10000, 99);
        });
        Check.sentence("17: m 1, which no throw is needed for", () -> {
            coin(50, 1, 0, 1);
            coin(1, 1, 0, 1);
            coin(99, 1, 0, 1);
        });
        Check.sentence("17: m 16", () -> {
            coin(50, 16, 4, 1);
            // 640000 by 16 times 99
            coin(1, 16, 40000, 99);
        });
        Check.sentence("17: 2 to the power of k just m", () -> {
            coin(50, 2, 1, 1);
            coin(50, 4, 2, 1);
            coin(50, 8, 3, 1);
        });
        Check.sentence("17: 2 to the power of k just more than m", () -> {
            coin(50, 3, 8, 3);
            coin(50, 7, 24, 7);
            coin(50, 15, 64, 15);
        });
        Check.sentence("17: m just more than a power of 2", () -> {
            coin(50, 5, 24, 5);
            coin(50, 9, 64, 9);
        });
        Check.sentence("17: p of 50 and p beside it", () -> {
            coin(49, 2, 10000, 2499);
            coin(50, 2, 1, 1);
            coin(51, 2, 10000, 2499);
        });
        Check.sentence("17: in lowest terms", () -> {
            coin(50, 6, 4, 1);
            coin(50, 12, 16, 3);
            coin(20, 4, 25, 2);
        });
    }

    // ---- dice

    private static void die(int f, int m, long above, long below) {
        Check.due("dice above " + f + " " + m, new ShortStraw().dice(f, m, 0), above);
        Check.due("dice below " + f + " " + m, new ShortStraw().dice(f, m, 1), below);
    }

    private static void diceRefusals() {
        Check.sentence("18: NO: f", () -> {
            for (int f : new int[] {1, 0, -1, 21, Straws.LEAST, Straws.GREATEST}) {
                Check.due("f " + f, new ShortStraw().dice(f, 2, 0), NO);
            }
        });
        Check.sentence("18: NO: m", () -> {
            for (int m : new int[] {0, -1, 17, Straws.LEAST, Straws.GREATEST}) {
                Check.due("m " + m, new ShortStraw().dice(6, m, 0), NO);
            }
        });
        Check.sentence("18: NO: part", () -> {
            for (int part : NO_PARTS) {
                Check.due("part " + part, new ShortStraw().dice(6, 2, part), NO);
            }
        });
        Check.sentence("18: NO: several of them", () -> Check.due("all", new ShortStraw().dice(1, 0, 2), NO));
    }

    private static void dice() {
        Check.sentence("18: f 2 to 20", () -> {
            die(2, 3, 8, 3);
            die(20, 3, 10, 9);
        });
        Check.sentence("18: k 0, by m 1", () -> {
            die(2, 1, 0, 1);
            die(20, 1, 0, 1);
        });
        Check.sentence("18: m 16", () -> {
            die(2, 16, 4, 1);
            die(20, 16, 5, 4);
        });
        Check.sentence("18: f to the power of k just m", () -> {
            die(6, 6, 1, 1);
            die(3, 9, 2, 1);
            die(4, 16, 2, 1);
        });
        Check.sentence("18: m just more than a power of f", () -> {
            // 72 by 35 and 81 by 20
            die(6, 7, 72, 35);
            die(3, 10, 81, 20);
        });
        Check.sentence("18: g no more than that", () -> {
            die(6, 3, 1, 1);
            die(6, 4, 3, 2);
            die(5, 6, 25, 12);
            die(15, 16, 225, 112);
        });
    }

    // ---- turn, uneven, most

    private static void turns() {
        Check.sentence("19: -5", () -> Check.due("nobody", new ShortStraw().turn(), -5));
        Check.sentence("19: of several the first in the order", () -> {
            ShortStraw straw = Straws.sent(1, 0, 0, 0);
            straw.place(3, 1);
            Check.due("turn", straw.turn(), 3);
        });
        Check.sentence("19: the last one alone", () -> Check.due("turn", Straws.sent(1, 1, 1, 1, 1, 0).turn(), 5));
        Check.sentence("19: all sent most", () -> Check.due("turn", Straws.sent(999, 999).turn(), 0));
    }

    private static void uneven() {
        Check.sentence("20: nobody", () -> Check.due("uneven", new ShortStraw().uneven(), 0));
        Check.sentence("20: one alone", () -> Check.due("uneven", Straws.sent(999).uneven(), 0));
        Check.sentence("20: as uneven as can be", () -> {
            // six times 2997 times itself; and 4995 times itself, with five times 999 times itself
            Check.due("three and three", Straws.sent(999, 0, 999, 0, 999, 0).uneven(), 53892054);
            Check.due("one and five", Straws.sent(0, 0, 0, 0, 0, 999).uneven(), 29940030);
        });
    }

    private static void most() {
        Check.sentence("21: -5", () -> {
            Check.due("who", new ShortStraw().most(0), -5);
            Check.due("how many more", new ShortStraw().most(1), -5);
        });
        Check.sentence("21: NONE", () -> {
            for (int what : NO_PARTS) {
                Check.due("what " + what, Straws.blind(2).most(what), -1);
            }
        });
        Check.sentence("21: of several the least number", () -> {
            ShortStraw straw = Straws.sent(0, 7, 7, 7);
            straw.place(3, 0);
            Check.due("who", straw.most(0), 1);
        });
        Check.sentence("21: the last one alone", () -> Check.due("who", Straws.sent(0, 0, 0, 0, 0, 1).most(0), 5));
        Check.sentence("21: no more by one alone", () -> Check.due("more", Straws.sent(999).most(1), 0));
        Check.sentence("21: as many more as can be", () -> {
            Check.due("the first has fewest", Straws.sent(0, 999, 5).most(1), 999);
            Check.due("the last has fewest", Straws.sent(5, 999, 0).most(1), 999);
        });
    }
}
