/** Promise 10: draws and nights. */
public final class DrawsTest {
    public static void main(String[] args) {
        refusals();
        theEdgeOfAChance();
        nightsByShort();
        nightsByAll();
        noLongOnes();
        noPull();
        Check.end("DrawsTest");
    }

    private static void refusals() {
        ShortStraw straw = new ShortStraw();
        Check.due("below, nobody", straw.draw(-1), ShortStraw.BAD);
        Check.due("above, nobody", straw.draw(1000000), ShortStraw.BAD);
        Check.due("nobody", straw.draw(0), ShortStraw.STATE);
        Check.due("no night", straw.told(0), 0);
    }

    private static void theEdgeOfAChance() {
        ShortStraw straw = new ShortStraw();
        straw.drawer(3, 0);
        straw.drawer(3, 0);
        straw.drawer(3, 0);
        Check.due("the chance", straw.of(0, 5), 333333);
        Check.due("at the chance", straw.draw(333333), 0);
        Check.due("not sent", straw.of(0, 2), 0);
        Check.due("below the chance of evens", straw.draw(499999), 111);
        Check.due("sent", straw.of(1, 2), 1);
        Check.due("below the chance", straw.draw(333332), 110);
    }

    private static void nightsByShort() {
        ShortStraw straw = new ShortStraw();
        for (int d = 0; d < 4; d++) {
            straw.drawer(3, 0);
        }
        Check.hut(straw, "short 2", 0);
        straw.place(3, 0);
        Check.due("the first of the order", straw.draw(0), 13);
        Check.due("one short one left", straw.told(1), 1);
        Check.due("night goes on", straw.told(0), 0);
        Check.due("long", straw.draw(999999), 0);
        Check.due("the last short one", straw.draw(0), 111);
        Check.due("a night", straw.told(0), 1);
        Check.due("anew", straw.told(4), 3);
        Check.due("whole", straw.told(1), 2);
    }

    private static void nightsByAll() {
        ShortStraw straw = new ShortStraw();
        straw.drawer(3, 0);
        straw.drawer(3, 0);
        Check.hut(straw, "more 1", 0);
        for (int night = 1; night <= 5; night++) {
            Check.due("long", straw.draw(999999), 0);
            Check.due("long, and all have drawn", straw.draw(999999), 101);
            Check.due("nights", straw.told(0), night);
        }
        Check.due("nobody is sent", straw.most(1), 0);
    }

    private static void noLongOnes() {
        ShortStraw straw = new ShortStraw();
        straw.drawer(6, 0);
        straw.drawer(4, 9);
        for (int part = 0; part < 4; part++) {
            straw.row(0, part, 0);
        }
        Check.hut(straw, "short 3", 0);
        Check.due("no long ones", straw.told(2), 0);
        Check.due("certain", straw.of(0, 5), 1000000);
        Check.due("short all the same", straw.draw(999999), 10);
        Check.due("short ones are left, but all have drawn", straw.draw(999999), 111);
    }

    private static void noPull() {
        ShortStraw straw = new ShortStraw();
        straw.drawer(0, 0);
        straw.drawer(0, 0);
        Check.hut(straw, "shy 99 d=0;lean 88 d=0", 0);
        Check.due("little pull", straw.of(0, 4), 0);
        Check.due("no chance", straw.of(0, 5), 0);
        Check.due("long", straw.draw(0), 0);
        Check.due("no long ones left", straw.draw(999999), 111);
    }
}
