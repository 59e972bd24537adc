/** Promises 19 to 21: whose turn, how uneven, who most. */
public final class WintersTest {
    public static void main(String[] args) {
        nobody();
        turn();
        uneven();
        most();
        Check.end("WintersTest");
    }

    private static ShortStraw sent(int... sents) {
        ShortStraw straw = new ShortStraw();
        for (int d = 0; d < sents.length; d++) {
            straw.drawer(3, 0);
            straw.sent(d, sents[d]);
        }
        return straw;
    }

    private static void nobody() {
        ShortStraw straw = new ShortStraw();
        Check.due("turn", straw.turn(), -5);
        Check.due("uneven", straw.uneven(), 0);
        Check.due("most", straw.most(0), -5);
        Check.due("most more", straw.most(1), -5);
        Check.due("most below", straw.most(-1), ShortStraw.NONE);
        Check.due("most above", straw.most(2), ShortStraw.NONE);
    }

    private static void turn() {
        Check.due("fewest", sent(3, 1, 2).turn(), 1);
        ShortStraw straw = sent(4, 2, 2, 2);
        Check.due("the first in the order", straw.turn(), 1);
        straw.place(3, 0);
        Check.due("the first in that order", straw.turn(), 3);
        Check.due("sent most of all", sent(999, 999).turn(), 0);
    }

    private static void uneven() {
        Check.due("one", sent(7).uneven(), 0);
        Check.due("alike", sent(5, 5, 5).uneven(), 0);
        // 0, 3 and 6 less 9 each way
        Check.due("three", sent(1, 2, 3).uneven(), 18);
        Check.due("most of all", sent(999, 999, 999, 0, 0, 0).uneven(), 53892054);
    }

    private static void most() {
        ShortStraw straw = sent(2, 7, 7, 3);
        Check.due("the least number", straw.most(0), 1);
        Check.due("more", straw.most(1), 5);
        straw.place(2, 0);
        Check.due("not by the order", straw.most(0), 1);
        Check.due("what below", straw.most(-1), ShortStraw.NONE);
        Check.due("what above", straw.most(2), ShortStraw.NONE);
        Check.due("one", sent(4).most(1), 0);
        Check.due("the last is fewest", sent(5, 9, 2).most(1), 7);
        Check.due("the first is fewest", sent(0, 9).most(1), 9);
    }
}
