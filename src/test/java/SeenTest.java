/** Promises 22 to 27: what is seen, what fits it, odds, the mean, the book. */
public final class SeenTest {
    public static void main(String[] args) {
        see();
        fitsByChance();
        fitsByDraws();
        fitsByLongOnes();
        odds();
        mean();
        book();
        looked();
        lookedByTheFist();
        Check.end("SeenTest");
    }

    private static void see() {
        ShortStraw straw = new ShortStraw();
        Check.due("none", straw.see(-1, true), 0);
        Check.due("below", straw.see(-2, true), ShortStraw.BAD);
        Check.due("above", straw.see(1000000, true), ShortStraw.BAD);
        for (int i = 1; i <= 6; i++) {
            Check.due("seen", straw.see(i == 1 ? 0 : 999999, i % 2 == 0), i);
        }
        Check.due("full, d", straw.see(1000000, false), ShortStraw.BAD);
        Check.due("full", straw.see(0, false), ShortStraw.FULL);
        Check.due("six", straw.count(2), 6);
        Check.due("none then", straw.see(-1, false), 0);
        Check.due("none", straw.count(2), 0);
    }

    private static ShortStraw blind(int n) {
        ShortStraw straw = new ShortStraw();
        for (int d = 0; d < n; d++) {
            straw.drawer(3, 0);
        }
        return straw;
    }

    private static void fitsByChance() {
        ShortStraw straw = blind(4);
        Check.due("nothing seen", straw.fits(), 14);
        // by 1, 2, 3 short ones of four: 250000, 500000, 750000
        straw.see(250000, true);
        Check.due("not one", straw.fits(), 12);
        straw.see(-1, true);
        straw.see(249999, true);
        Check.due("all", straw.fits(), 14);
        straw.see(-1, true);
        straw.see(500000, false);
        Check.due("one or two", straw.fits(), 6);
        // then by one of three 333333, by two of three 666666
        straw.see(400000, true);
        Check.due("two", straw.fits(), 4);
        straw.see(0, false);
        Check.due("none", straw.fits(), 0);
    }

    private static void fitsByDraws() {
        ShortStraw nobody = new ShortStraw();
        nobody.see(0, true);
        Check.due("nobody draws", nobody.fits(), 0);
        ShortStraw straw = blind(3);
        straw.see(0, true);
        straw.see(999999, false);
        Check.due("with one the night has ended", straw.fits(), 4);
        straw.see(999999, true);
        Check.due("all three", straw.fits(), 4);
        straw.see(999999, false);
        Check.due("a fourth draw of three", straw.fits(), 0);
        ShortStraw order = new ShortStraw();
        order.drawer(3, 0);
        order.drawer(4, 0);
        Check.hut(order, "more 2", 0);
        order.see(0, false);
        Check.due("the blind one first", order.fits(), 0);
        order.place(1, 0);
        Check.due("the knowing one first", order.fits(), 6);
    }

    private static void fitsByLongOnes() {
        ShortStraw straw = blind(1);
        Check.hut(straw, "short 3", 0);
        // three short ones and no long one: with one short one there are two long ones more
        straw.see(400000, false);
        Check.due("one by two long ones", straw.fits(), 2);
        ShortStraw one = blind(1);
        one.see(999999, true);
        Check.due("never less than no long one", one.fits(), 14);
    }

    private static void odds() {
        ShortStraw straw = blind(4);
        straw.drawer(4, 0);
        straw.place(4, 0);
        Check.due("never", straw.odds(4, 0), 0);
        Check.due("never, below", straw.odds(4, 1), 1);
        Check.due("a quarter", straw.odds(0, 0), 1);
        Check.due("a quarter, below", straw.odds(0, 1), 4);
        // 250000 still: 750000 by 333333, cut, is 249999
        Check.due("cut", straw.odds(1, 0), 249999);
        Check.due("cut, below", straw.odds(1, 1), 1000000);
        Check.due("nobody", straw.odds(5, 0), ShortStraw.NO);
        Check.due("nobody below", straw.odds(-1, 0), ShortStraw.NO);
        Check.due("part below", straw.odds(0, -1), ShortStraw.NO);
        Check.due("part above", straw.odds(0, 2), ShortStraw.NO);
    }

    private static void mean() {
        ShortStraw straw = new ShortStraw();
        Check.due("nobody", straw.mean(0), ShortStraw.NO);
        Check.due("nobody, below", straw.mean(1), ShortStraw.NO);
        straw.drawer(3, 0);
        straw.drawer(3, 0);
        Check.due("one", straw.mean(0), 1);
        Check.due("one, below", straw.mean(1), 1);
        Check.due("part below", straw.mean(-1), ShortStraw.NO);
        Check.due("part above", straw.mean(2), ShortStraw.NO);
        Check.hut(straw, "more 2", 0);
        // 250000, and 750000 by 333333, cut
        Check.due("about a half", straw.mean(0), 499999);
        Check.due("about a half, below", straw.mean(1), 1000000);
        Check.hut(straw, "short 3", 1);
        Check.due("two", straw.mean(0), 2);
        Check.due("two, below", straw.mean(1), 1);
    }

    private static void book() {
        ShortStraw straw = new ShortStraw();
        Check.due("empty", straw.book(-1), 0);
        Check.due("below", straw.book(-2), ShortStraw.BAD);
        Check.due("above", straw.book(1000000), ShortStraw.BAD);
        for (int i = 1; i <= 8; i++) {
            Check.due("book", straw.book(i == 1 ? 0 : 999999), i);
        }
        Check.due("full, d", straw.book(1000000), ShortStraw.BAD);
        Check.due("full", straw.book(0), ShortStraw.FULL);
        Check.due("eight", straw.count(3), 8);
        Check.due("nobody looks", straw.looked(), -5);
        Check.due("empty then", straw.book(-1), 0);
        Check.due("none", straw.count(3), 0);
    }

    private static void looked() {
        ShortStraw straw = blind(3);
        Check.due("no book", straw.looked(), -5);
        Check.hut(straw, "more 9", 0);
        // of twelve, eleven and ten: 83333, 90909, 100000
        int[] book = {83333, 90909, 100000, 90000, 90909, 99999};
        int[] want = {-5, -5, -5, -5, -5, 5};
        for (int i = 0; i < book.length; i++) {
            straw.book(book[i]);
            Check.due("looked " + i, straw.looked(), want[i]);
        }
        straw.book(0);
        Check.due("the first", straw.looked(), 5);
        straw.place(0, 2);
        Check.due("the book stays", straw.looked(), 5);
    }

    /** From a whole fist, by the order, also when some have drawn. */
    private static void lookedByTheFist() {
        ShortStraw straw = blind(2);
        straw.book(500000);
        straw.book(999999);
        Check.due("the last one has no long one", straw.looked(), 1);
        straw.draw(999999);
        Check.due("from a whole fist", straw.looked(), 1);
        Check.due("still drawn", straw.told(3), 1);
        straw.book(-1);
        straw.book(499999);
        Check.due("the first", straw.looked(), 0);
        straw.drawer(4, 0);
        straw.place(2, 0);
        Check.due("the knowing one takes a long one", straw.looked(), -5);
    }
}
