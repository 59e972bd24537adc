/** Promises 11 to 16: how likely, how even, the best order, the safest place, enough, who leans. */
public final class LikelyTest {
    public static void main(String[] args) {
        nobody();
        likely();
        likelyWithTwoShortOnes();
        byAWholeFist();
        even();
        best();
        bestOfManyAlike();
        safest();
        enough();
        leans();
        Check.end("LikelyTest");
    }

    private static void nobody() {
        ShortStraw straw = new ShortStraw();
        Check.due("likely", straw.likely(0), ShortStraw.NONE);
        Check.due("even", straw.even(), -5);
        for (int k = -1; k < 5; k++) {
            Check.due("best " + k, straw.best(k), -5);
        }
        Check.due("best below", straw.best(-2), ShortStraw.NONE);
        Check.due("best above", straw.best(5), ShortStraw.NONE);
        Check.due("safest", straw.safest(0, 0), ShortStraw.NONE);
        Check.due("enough", straw.enough(0, -1), ShortStraw.NONE);
        Check.due("leans", straw.leans(), -5);
    }

    private static void likely() {
        ShortStraw straw = new ShortStraw();
        straw.drawer(3, 0);
        straw.drawer(3, 0);
        straw.drawer(3, 0);
        Check.due("a third", straw.likely(0), 333333);
        // 666667 by a half, cut
        Check.due("a third, cut", straw.likely(1), 333333);
        Check.due("the rest", straw.likely(2), 333334);
        Check.due("nobody", straw.likely(3), ShortStraw.NONE);
        Check.due("nobody below", straw.likely(-1), ShortStraw.NONE);
        straw.drawer(5, 9);
        straw.place(3, 0);
        // pull 38 against three long ones
        Check.due("the rash one first", straw.likely(3), 558823);
        Check.due("the next", straw.likely(0), 147058);
    }

    private static void likelyWithTwoShortOnes() {
        ShortStraw straw = new ShortStraw();
        straw.drawer(4, 0);
        straw.drawer(3, 0);
        straw.drawer(3, 0);
        Check.hut(straw, "short 2", 0);
        // the knowing one is as keen while long ones are fewer: 20 by 30
        Check.due("first", straw.likely(0), 666666);
        Check.due("second", straw.likely(1), 666667);
        Check.due("third", straw.likely(2), 666667);
    }

    /** What is asked goes by a whole fist, also when some have drawn, and changes nothing. */
    private static void byAWholeFist() {
        ShortStraw straw = new ShortStraw();
        straw.drawer(0, 0);
        straw.drawer(2, 5);
        straw.drawer(1, 2);
        int[] before = asked(straw);
        straw.draw(999999);
        int[] then = asked(straw);
        for (int i = 0; i < before.length; i++) {
            Check.due("asked " + i, then[i], before[i]);
        }
        Check.due("still drawn", straw.told(3), 1);
        Check.due("still left", straw.told(2), 1);
        Check.due("the order", straw.told(10), 0);
    }

    private static int[] asked(ShortStraw straw) {
        return new int[] {
            straw.likely(0), straw.likely(1), straw.likely(2), straw.even(), straw.best(-1), straw.best(0),
            straw.safest(0, 0), straw.safest(1, 1), straw.enough(1, 200000), straw.leans(), (int) straw.mean(0),
            (int) straw.odds(1, 0), straw.looked(), straw.fits(),
        };
    }

    private static void even() {
        ShortStraw straw = new ShortStraw();
        straw.drawer(3, 0);
        Check.due("one", straw.even(), 0);
        straw.drawer(3, 0);
        straw.drawer(3, 0);
        Check.due("three", straw.even(), 1);
        straw.drawer(4, 0);
        // 250000, 249999, 250000, and what is left
        Check.due("four", straw.even(), 2);
        straw.place(3, 0);
        Check.due("the knowing one first", straw.even(), 333334);
    }

    private static void best() {
        ShortStraw straw = new ShortStraw();
        straw.drawer(4, 0);
        straw.drawer(3, 0);
        straw.drawer(3, 0);
        // ahead of others the knowing one never takes it while long ones are as many
        Check.due("by it", straw.best(-1), 1);
        Check.due("first", straw.best(0), 1);
        Check.due("second", straw.best(1), 2);
        Check.due("third", straw.best(2), 0);
        Check.due("fewer", straw.best(3), -5);
        Check.due("fewer by two", straw.best(4), -5);
        Check.due("k above", straw.best(5), ShortStraw.NONE);
        Check.due("k below", straw.best(-2), ShortStraw.NONE);
        straw.drawer(3, 0);
        straw.drawer(3, 0);
        bestOfFive();
        Check.due("five", straw.best(4), 0);
        straw.drawer(3, 0);
        for (int k = -1; k < 5; k++) {
            Check.due("six", straw.best(k), -9);
        }
        Check.due("six, k above", straw.best(5), ShortStraw.NONE);
    }

    /** With one short one, who knows it must be last, and the huts tell where the others are most even. */
    private static void bestOfFive() {
        ShortStraw straw = new ShortStraw();
        straw.drawer(4, 0);
        straw.drawer(0, 0);
        straw.drawer(0, 0);
        straw.drawer(0, 0);
        straw.drawer(0, 0);
        Check.hut(straw, "shy 99 d=1&!p=3;shy 99 d=2&!p=2;shy 99 d=3&!p=1;shy 99 d=4&!p=0", 0);
        int[] want = {4, 3, 2, 1, 0};
        for (int k = 0; k < 5; k++) {
            Check.due("told by the hut " + k, straw.best(k), want[k]);
        }
        // 200000 and what is cut away of it
        Check.due("told by the hut, even", straw.best(-1), 2);
    }

    /** Of orders that are as even the first as a row, whatever THE ORDER is. */
    private static void bestOfManyAlike() {
        ShortStraw straw = new ShortStraw();
        for (int d = 0; d < 5; d++) {
            straw.drawer(3, 0);
        }
        straw.place(4, 0);
        for (int k = 0; k < 5; k++) {
            Check.due("alike " + k, straw.best(k), k);
        }
    }

    private static void safest() {
        ShortStraw straw = new ShortStraw();
        straw.drawer(4, 0);
        straw.drawer(3, 0);
        straw.drawer(3, 0);
        // with as many long ones as short ones it knows: so far it is safe at the first two places
        straw.place(0, 2);
        Check.due("knowing, place", straw.safest(0, 0), 0);
        Check.due("knowing, likely", straw.safest(0, 1), 0);
        Check.due("blind, place", straw.safest(1, 0), 0);
        Check.due("blind, likely", straw.safest(1, 1), 333333);
        Check.due("nobody", straw.safest(3, 0), ShortStraw.NONE);
        Check.due("what below", straw.safest(0, -1), ShortStraw.NONE);
        Check.due("what above", straw.safest(0, 2), ShortStraw.NONE);
        ShortStraw bold = new ShortStraw();
        bold.drawer(2, 9);
        bold.drawer(3, 0);
        bold.drawer(3, 0);
        Check.due("bold", bold.likely(0), 487179);
        Check.due("bold, place", bold.safest(0, 0), 2);
        Check.due("bold, likely", bold.safest(0, 1), 333334);
        Check.due("the order stays", bold.of(0, 3), 0);
        Check.hut(bold, "shy 99 p=1", 0);
        Check.due("by the place", bold.safest(0, 0), 1);
        // 666667 by 9 of 19: its plain pull is 0 there
        Check.due("by the place, likely", bold.safest(0, 1), 315789);
    }

    private static void enough() {
        ShortStraw straw = new ShortStraw();
        straw.drawer(3, 0);
        straw.drawer(3, 0);
        Check.due("nobody", straw.enough(2, 0), ShortStraw.NONE);
        Check.due("q below", straw.enough(0, -1), ShortStraw.BAD);
        Check.due("q above", straw.enough(0, 1000001), ShortStraw.BAD);
        Check.due("never by blind ones", straw.enough(0, 0), -5);
        Check.due("none more", straw.enough(0, 500000), 0);
        Check.due("one more", straw.enough(0, 499999), 1);
        Check.due("one more is just enough", straw.enough(0, 333333), 1);
        Check.due("two more", straw.enough(0, 333332), 2);
        // one by 22
        Check.due("twenty more", straw.enough(0, 45454), 20);
        Check.due("not by twenty", straw.enough(0, 45453), -5);
        Check.due("all", straw.enough(1, 1000000), 0);
        Check.hut(straw, "short 3", 0);
        // two drawers and three short ones: no long one, not one less than none
        Check.due("one long one by three short ones", straw.enough(0, 750000), 1);
    }

    private static void leans() {
        ShortStraw straw = new ShortStraw();
        straw.drawer(3, 0);
        straw.drawer(0, 0);
        Check.due("the least number", straw.leans(), 0);
        straw.drawer(2, 1);
        Check.due("the bold one", straw.leans(), 2);
        Check.hut(straw, "lean 5 d=1&p=0", 0);
        Check.due("as the first to draw", straw.leans(), 1);
        straw.drawer(2, 0);
        Check.hut(straw, "lean 9 d=1&l=2;lean 9 d=3&l=3;shy 99 d=2", 1);
        straw.draw(999999);
        Check.due("by the whole fist", straw.leans(), 3);
        Check.hut(straw, "shy 99 d<9;short 1", 2);
        Check.due("the blind one", straw.leans(), 0);
        ShortStraw all = new ShortStraw();
        all.drawer(4, 0);
        all.drawer(4, 0);
        Check.due("nobody likes it", all.leans(), 0);
    }
}
