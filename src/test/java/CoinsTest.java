/** Promises 17 and 18: coins and dice. */
public final class CoinsTest {
    public static void main(String[] args) {
        coin();
        dice();
        Check.end("CoinsTest");
    }

    private static void coin() {
        coin(50, 1, 0, 1);
        coin(50, 2, 1, 1);
        coin(50, 3, 8, 3);
        coin(50, 4, 2, 1);
        coin(50, 5, 24, 5);
        coin(50, 8, 3, 1);
        coin(50, 9, 64, 9);
        coin(50, 16, 4, 1);
        coin(30, 1, 0, 1);
        coin(30, 5, 160, 7);
        // 10000 by 99, twice by two
        coin(1, 2, 10000, 99);
        coin(99, 2, 10000, 99);
        coin(51, 2, 10000, 2499);
        coin(20, 16, 25, 1);
        no("p below", new ShortStraw().coin(0, 2, 0));
        no("p above", new ShortStraw().coin(100, 2, 0));
        no("m below", new ShortStraw().coin(50, 0, 0));
        no("m above", new ShortStraw().coin(50, 17, 0));
        no("part below", new ShortStraw().coin(50, 2, -1));
        no("part above", new ShortStraw().coin(50, 2, 2));
    }

    private static void coin(int p, int m, long above, long below) {
        ShortStraw straw = new ShortStraw();
        Check.due("coin above " + p + " " + m, straw.coin(p, m, 0), above);
        Check.due("coin below " + p + " " + m, straw.coin(p, m, 1), below);
    }

    private static void dice() {
        dice(6, 1, 0, 1);
        dice(6, 2, 1, 1);
        dice(6, 4, 3, 2);
        dice(6, 5, 6, 5);
        dice(6, 6, 1, 1);
        dice(6, 7, 72, 35);
        dice(2, 3, 8, 3);
        dice(2, 16, 4, 1);
        dice(2, 11, 64, 11);
        dice(3, 10, 27 * 3, 20);
        dice(20, 16, 5, 4);
        dice(15, 16, 2 * 225, 224 - 0);
        no("f below", new ShortStraw().dice(1, 2, 0));
        no("f above", new ShortStraw().dice(21, 2, 0));
        no("m below", new ShortStraw().dice(6, 0, 0));
        no("m above", new ShortStraw().dice(6, 17, 0));
        no("part below", new ShortStraw().dice(6, 2, -1));
        no("part above", new ShortStraw().dice(6, 2, 2));
    }

    private static void dice(int f, int m, long above, long below) {
        ShortStraw straw = new ShortStraw();
        long common = java.math.BigInteger.valueOf(above).gcd(java.math.BigInteger.valueOf(below)).longValue();
        Check.due("dice above " + f + " " + m, straw.dice(f, m, 0), above / common);
        Check.due("dice below " + f + " " + m, straw.dice(f, m, 1), below / common);
    }

    private static void no(String call, long got) {
        Check.due(call, got, ShortStraw.NO);
    }
}
