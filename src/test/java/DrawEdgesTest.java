/** Promise 10, and the terms on pull, chance and draws: each sentence that names an edge, by a test of its own. */
public final class DrawEdgesTest {
    public static void main(String[] args) {
        plain();
        kinds();
        letters();
        chances();
        refusals();
        draws();
        nights();
        Check.end("DrawEdgesTest");
    }

    /** The pull of a first drawer by a hut. */
    private static int pull(int kind, int v, String text) {
        return Straws.with(text, Straws.kinds(v, kind, 3, 3)).of(0, 4);
    }

    // ---- pull

    private static void plain() {
        Check.sentence("terms: plain is 10 without clauses", () -> Check.due("pull", Straws.kinds(3, 0).of(0, 4), 10));
        Check.sentence("terms: plain is 10 if no E holds", () ->
            Check.due("pull", pull(0, 0, "lean 9 d=1;shy 9 d>0"), 10));
        Check.sentence("terms: plain 0 at least", () -> {
            Check.due("9 less", pull(0, 0, "shy 9 d=0"), 1);
            Check.due("10 less", pull(0, 0, "shy 10 d=0"), 0);
            Check.due("11 less", pull(0, 0, "shy 11 d=0"), 0);
            Check.due("much less", pull(0, 0, "shy 99 d=0;shy 99 d=0"), 0);
        });
        Check.sentence("terms: 0 at least by all clauses together", () -> {
            Check.due("less, then more", pull(0, 0, "shy 15 d=0;lean 10 d=0"), 5);
            Check.due("less, more, less", pull(0, 0, "shy 99 d=0;lean 90 d=0;shy 1 d=0"), 0);
        });
        Check.sentence("terms: the n of all lean, as many as they are", () ->
            Check.due("eight by 99", pull(0, 0, "lean 99 d=0;lean 99 d=0;lean 99 d=0;lean 99 d=0;"
                + "lean 99 d=0;lean 99 d=0;lean 99 d=0;lean 99 d=0"), 802));
        Check.sentence("terms: n 0 is nothing", () -> Check.due("pull", pull(0, 0, "lean 0 d=0;shy 00 d=0"), 10));
    }

    private static void kinds() {
        Check.sentence("terms: keen 0 at least", () -> {
            Check.due("one above", pull(1, 9, "more 1"), 1);
            Check.due("none above", pull(1, 9, "shy 1 d=0"), 0);
            Check.due("below", pull(1, 9, "shy 2 d=0"), 0);
            Check.due("plain is nothing", pull(1, 9, "shy 99 d=0"), 0);
            Check.due("v is nothing", pull(1, 0, "shy 9 d=0"), 1);
        });
        Check.sentence("terms: bold by a plain that is 0 at least", () -> {
            Check.due("below", pull(2, 9, "shy 99 d=0"), 9);
            Check.due("nothing at all", pull(2, 0, "shy 99 d=0"), 0);
        });
        Check.sentence("terms: blind is 10 whatever holds", () -> {
            Check.due("lean", pull(3, 9, "lean 99 d=0"), 10);
            Check.due("shy", pull(3, 9, "shy 99 d=0"), 10);
        });
        Check.sentence("terms: rash is twice as bold", () -> {
            Check.due("nothing at all", pull(5, 0, "shy 99 d=0"), 0);
            Check.due("v alone", pull(5, 9, "shy 10 d=0"), 18);
            Check.due("both", pull(5, 9, "lean 99 d=0"), 236);
        });
        Check.sentence("terms: knowing is 0 by as many long ones", () -> {
            Check.due("one and one", Straws.kinds(0, 4, 3).of(0, 4), 0);
            Check.due("two and two", Straws.with("short 2", Straws.kinds(0, 4, 3, 3, 3)).of(0, 4), 0);
        });
        Check.sentence("terms: knowing is 0 by more long ones", () ->
            Check.due("one and two", Straws.kinds(0, 4, 3, 3).of(0, 4), 0));
        Check.sentence("terms: knowing is as keen by fewer long ones", () -> {
            Check.due("two and one", Straws.with("short 2", Straws.kinds(3, 4, 3, 3)).of(0, 4), 7);
            Check.due("one and none", Straws.kinds(3, 4).of(0, 4), 7);
        });
        Check.sentence("terms: knowing 0 at least, as keen", () -> {
            Check.due("none above", pull(4, 9, "short 3;shy 1 d=0"), 0);
            Check.due("below", pull(4, 9, "short 3;shy 2 d=0"), 0);
            Check.due("one above", pull(4, 9, "short 3"), 1);
        });
        Check.sentence("terms: told's row at sent modulo 4", () -> {
            ShortStraw straw = Straws.kinds(9, 6);
            for (int part = 0; part < 4; part++) {
                straw.row(0, part, part);
            }
            int[] sents = {0, 3, 4, 7, 8, 998, 999};
            int[] pulls = {0, 6, 0, 6, 0, 4, 6};
            for (int i = 0; i < sents.length; i++) {
                straw.sent(0, sents[i]);
                Check.due("sent " + sents[i], straw.of(0, 4), pulls[i]);
            }
        });
        Check.sentence("terms: told is 10 at first, and 0 to 18", () -> {
            ShortStraw straw = Straws.with("lean 99 d=0", Straws.kinds(9, 6));
            Check.due("at first", straw.of(0, 4), 10);
            straw.row(0, 0, 9);
            Check.due("greatest", straw.of(0, 4), 18);
            straw.row(0, 0, 0);
            Check.due("least", straw.of(0, 4), 0);
        });
    }

    // ---- the letters of a test at their edges

    private static void holds(String test, ShortStraw straw, int d, boolean isSo) {
        Check.due(test, Straws.with("more 3;short 2;lean 1 " + test, straw).of(d, 4), isSo ? 11 : 10);
    }

    private static void sentHolds(int sent, String test, boolean isSo) {
        ShortStraw straw = Straws.kinds(0, 0);
        straw.sent(0, sent);
        holds(test, straw, 0, isSo);
    }

    private static void letters() {
        Check.sentence("terms: < and = and > by the same number", () -> {
            holds("s<2", Straws.kinds(0, 0), 0, false);
            holds("s=2", Straws.kinds(0, 0), 0, true);
            holds("s>2", Straws.kinds(0, 0), 0, false);
        });
        Check.sentence("terms: < and = and > by one less and one more", () -> {
            holds("s<3", Straws.kinds(0, 0), 0, true);
            holds("s=3", Straws.kinds(0, 0), 0, false);
            holds("s=1", Straws.kinds(0, 0), 0, false);
            holds("s>1", Straws.kinds(0, 0), 0, true);
        });
        Check.sentence("terms: none is below 0, none above 99", () -> {
            holds("d<0", Straws.kinds(0, 0), 0, false);
            holds("l>99", Straws.kinds(0, 0), 0, false);
            holds("l<99", Straws.kinds(0, 0), 0, true);
        });
        Check.sentence("terms: n is sent modulo 10", () -> {
            sentHolds(9, "n=9", true);
            sentHolds(10, "n=0", true);
            sentHolds(10, "n=10", false);
            sentHolds(19, "n>9", false);
            sentHolds(999, "n=9", true);
        });
        Check.sentence("terms: d and p of the first and the last", () -> {
            ShortStraw straw = Straws.kinds(0, 0, 0, 0, 0, 0, 0);
            straw.place(5, 0);
            holds("d=5&p=0", straw, 5, true);
            holds("d=4&p=5", straw, 4, true);
        });
        Check.sentence("terms: k of the first kind and the last that goes by it", () -> {
            holds("k=0", Straws.kinds(0, 0), 0, true);
            Check.due("rash", pull(5, 0, "lean 1 k=5"), 22);
            Check.due("no kind", pull(5, 0, "lean 1 k=6"), 20);
        });
        Check.sentence("terms: s and l are those that there are then", () -> {
            ShortStraw straw = Straws.with("short 2;more 1;lean 7 s=1&l=2", Straws.kinds(0, 0, 0, 0));
            Check.due("at first", straw.of(2, 4), 10);
            straw.draw(0);
            Check.due("one short one less", straw.of(2, 4), 17);
            straw.draw(999999);
            Check.due("one long one less", straw.of(2, 4), 10);
        });
    }

    // ---- chance

    private static void chances() {
        Check.sentence("terms: chance is a million without long ones", () -> {
            Check.due("one", Straws.blind(1).of(0, 5), 1000000);
            Check.due("no pull", Straws.with("shy 99 d=0", Straws.kinds(0, 0)).of(0, 5), 1000000);
        });
        Check.sentence("terms: without long ones any d is below it", () ->
            Check.due("draw", Straws.with("shy 99 d=0", Straws.kinds(0, 0)).draw(999999), 110));
        Check.sentence("terms: with no short ones none is asked: the night has ended", () -> {
            ShortStraw straw = Straws.blind(3);
            straw.draw(0);
            Check.due("short", straw.told(1), 1);
            Check.due("by a whole fist", straw.of(1, 5), 333333);
        });
        Check.sentence("terms: chance is 0 without pull", () -> {
            ShortStraw straw = Straws.with("shy 10 d=0", Straws.kinds(0, 0, 0));
            Check.due("chance", straw.of(0, 5), 0);
            Check.due("even 0 is not below", straw.draw(0), 0);
        });
        Check.sentence("terms: chance is cut", () -> {
            Check.due("2 by 3", Straws.with("short 2", Straws.blind(3)).of(0, 5), 666666);
            Check.due("1 by 7", Straws.with("more 1", Straws.blind(6)).of(0, 5), 142857);
        });
        Check.sentence("terms: chance by the greatest numbers", () -> {
            ShortStraw straw = Straws.with("short 3;more 9;lean 99 d=0;lean 99 d=0;lean 99 d=0;lean 99 d=0;"
                + "lean 99 d=0;lean 99 d=0;lean 99 d=0", Straws.kinds(9, 5));
            Check.due("pull", straw.of(0, 4), 1424);
            // 3 times 1424, by that and seven times 10
            Check.due("chance", straw.of(0, 5), 983878);
        });
    }

    // ---- draws

    private static void refusals() {
        Check.sentence("10: BAD: d below 0", () -> {
            Check.due("-1", Straws.blind(1).draw(-1), -2);
            Check.due("least", Straws.blind(1).draw(Straws.LEAST), -2);
        });
        Check.sentence("10: BAD: d above 999999", () -> {
            Check.due("a million", Straws.blind(1).draw(1000000), -2);
            Check.due("greatest", Straws.blind(1).draw(Straws.GREATEST), -2);
        });
        Check.sentence("10: d 0 to 999999", () -> {
            Check.due("0", Straws.blind(2).draw(0), 110);
            Check.due("999999", Straws.blind(2).draw(999999), 0);
        });
        Check.sentence("10: STATE: nobody is there", () -> Check.due("draw", new ShortStraw().draw(0), -3));
        Check.sentence("10: STATE: night is 9999", DrawEdgesTest::lastNight);
    }

    /** No run of 512 calls comes so far; beyond them the program goes on in the same way. */
    private static void lastNight() {
        ShortStraw straw = Straws.blind(1);
        for (int night = 1; night < 9999; night++) {
            straw.draw(0);
        }
        Check.due("the last draw", straw.draw(0), 110);
        Check.due("night", straw.told(0), 9999);
        Check.due("one more", straw.draw(0), -3);
        Check.due("night still", straw.told(0), 9999);
    }

    private static void draws() {
        Check.sentence("terms: short if d is below chance", () ->
            Check.due("one below", Straws.blind(3).draw(333332), 110));
        Check.sentence("terms: else it is long", () -> Check.due("the chance itself", Straws.blind(3).draw(333333), 0));
        Check.sentence("terms: sent 999 at most", () -> {
            ShortStraw straw = Straws.sent(998);
            straw.draw(0);
            Check.due("once more", straw.of(0, 2), 999);
            Check.due("short all the same", straw.draw(0), 110);
            Check.due("no more", straw.of(0, 2), 999);
        });
        Check.sentence("terms: who has a long one is not sent", () -> {
            ShortStraw straw = Straws.sent(5, 5);
            straw.draw(999999);
            Check.due("sent", straw.of(0, 2), 5);
        });
    }

    private static void nights() {
        Check.sentence("10: 100 more, when no short ones are left", () -> {
            ShortStraw straw = Straws.with("short 2", Straws.blind(4));
            Check.due("one is left", straw.draw(0), 10);
            Check.due("none is left", straw.draw(0), 111);
            Check.due("night", straw.told(0), 1);
        });
        Check.sentence("10: 100 more, when all have drawn", () -> {
            ShortStraw straw = Straws.with("more 1", Straws.blind(2));
            Check.due("one has not", straw.draw(999999), 0);
            Check.due("all have", straw.draw(999999), 101);
            Check.due("night", straw.told(0), 1);
        });
        Check.sentence("10: once 100 more, when both are so", () -> {
            ShortStraw straw = Straws.blind(2);
            straw.draw(999999);
            Check.due("the last of both", straw.draw(999999), 111);
            Check.due("one night", straw.told(0), 1);
        });
        Check.sentence("10: short ones may be left when all have drawn", () -> {
            ShortStraw straw = Straws.with("short 3", Straws.blind(2));
            Check.due("first", straw.draw(999999), 10);
            Check.due("all have", straw.draw(999999), 111);
            Check.due("whole again", straw.told(1), 3);
        });
        Check.sentence("10: the first of the order behind the last one", () -> {
            ShortStraw straw = Straws.with("more 9", Straws.blind(6));
            straw.place(5, 0);
            int[] due = {5, 0, 1, 2, 3, 104, 5};
            for (int i = 0; i < due.length; i++) {
                Check.due("draw " + i, straw.draw(999999), due[i]);
            }
        });
        Check.sentence("10: one alone ends each night", () -> {
            ShortStraw straw = Straws.with("more 1", Straws.blind(1));
            Check.due("long", straw.draw(500000), 100);
            Check.due("short", straw.draw(499999), 110);
            Check.due("nights", straw.told(0), 2);
        });
    }
}
