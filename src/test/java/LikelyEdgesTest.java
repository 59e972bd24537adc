/** Promises 11 to 16, and the terms behind them: each sentence that names an edge, by a test of its own. */
public final class LikelyEdgesTest {
    private static final int[] NOBODIES = {-1, 2, 6, Straws.LEAST, Straws.GREATEST};

    public static void main(String[] args) {
        likely();
        even();
        best();
        safest();
        enough();
        leans();
        Check.end("LikelyEdgesTest");
    }

    // ---- likely, even

    private static void likely() {
        Check.sentence("11: NONE", () -> {
            for (int d : NOBODIES) {
                Check.due("likely " + d, Straws.blind(2).likely(d), -1);
            }
        });
        Check.sentence("terms: likely by no long ones", () -> {
            ShortStraw straw = Straws.with("short 3;shy 99 d<6", Straws.kinds(0, 0, 0));
            Check.due("the first", straw.likely(0), 1000000);
            Check.due("the second", straw.likely(1), 1000000);
        });
        Check.sentence("terms: likely of one alone", () -> Check.due("likely", Straws.kinds(0, 4).likely(0), 1000000));
        Check.sentence("terms: likely without pull", () -> {
            ShortStraw straw = Straws.with("shy 10 d=0", Straws.kinds(0, 0, 3));
            Check.due("never", straw.likely(0), 0);
            Check.due("who is left", straw.likely(1), 1000000);
        });
        Check.sentence("terms: gone is cut, by n from 1 on", LikelyEdgesTest::likelyOfThreeShortOnes);
        Check.sentence("terms: mass of as many as a whole fist has", () ->
            Check.due("two of twelve", Straws.with("short 2;more 6", Straws.blind(6)).likely(0), 166666));
        Check.sentence("terms: all that follows goes by a whole fist", () -> {
            ShortStraw straw = Straws.with("short 2", Straws.blind(3));
            straw.draw(0);
            Check.due("likely", straw.likely(0), 666666);
            Check.due("the last", straw.likely(2), 666667);
        });
        Check.sentence("terms: s, l and p are those of that draw", LikelyEdgesTest::likelyByLetters);
        Check.sentence("12: -5: nobody", () -> Check.due("even", new ShortStraw().even(), -5));
    }

    private static void likelyOfThreeShortOnes() {
        ShortStraw straw = Straws.with("short 3", Straws.blind(4));
        Check.due("first", straw.likely(0), 750000);
        // 750000 by 666666 cut is 499999, and the 250000 that are certain
        Check.due("second", straw.likely(1), 749999);
        // 499999 by a half cut is 249999, and 500001 that are certain
        Check.due("third", straw.likely(2), 750000);
        Check.due("fourth", straw.likely(3), 750001);
    }

    private static void likelyByLetters() {
        ShortStraw straw = Straws.with("short 2;more 1;lean 30 s=1&l=2&p=1;lean 10 s=2&l=1&p=1",
            Straws.kinds(0, 0, 0, 0));
        Check.due("first", straw.likely(0), 500000);
        // 500000 by 40 of 60, cut, with one short one left, and 500000 by 40 of 50 with two
        Check.due("second", straw.likely(1), 733333);
    }

    private static void even() {
        Check.sentence("12: even of one", () -> Check.due("even", Straws.blind(1).even(), 0));
        Check.sentence("12: even is 0 if all are as likely", () -> {
            Check.due("two", Straws.blind(2).even(), 0);
            Check.due("all are sent", Straws.with("short 3", Straws.kinds(0, 4, 5, 6)).even(), 0);
        });
        Check.sentence("12: even is a million if one is sent and one never", () ->
            Check.due("even", Straws.kinds(0, 4, 3).even(), 1000000));
    }

    // ---- best

    private static void best() {
        Check.sentence("13: NONE: k below -1", () -> {
            Check.due("-2", Straws.blind(5).best(-2), -1);
            Check.due("least", Straws.blind(5).best(Straws.LEAST), -1);
        });
        Check.sentence("13: NONE: k above 4", () -> {
            Check.due("5", Straws.blind(5).best(5), -1);
            Check.due("greatest", Straws.blind(5).best(Straws.GREATEST), -1);
        });
        Check.sentence("13: k -1 to 4", () -> {
            Check.due("-1", Straws.blind(2).best(-1), 0);
            Check.due("4", Straws.blind(5).best(4), 4);
        });
        Check.sentence("13: -5: there are fewer", () -> {
            for (int n = 1; n < 5; n++) {
                Check.due("the last of " + n, Straws.blind(n).best(n - 1), n - 1);
                Check.due("behind " + n, Straws.blind(n).best(n), -5);
                Check.due("4 of " + n, Straws.blind(n).best(4), -5);
            }
        });
        Check.sentence("13: -5: nobody", () -> {
            for (int k = -1; k <= 4; k++) {
                Check.due("best " + k, new ShortStraw().best(k), -5);
            }
        });
        Check.sentence("13: -9: more than 5", () -> {
            for (int k = -1; k <= 4; k++) {
                Check.due("best " + k, Straws.blind(6).best(k), -9);
            }
        });
        Check.sentence("13: 5 at most", () -> {
            // 200000 for each, but for what is cut away
            Check.due("even", Straws.blind(5).best(-1), 2);
            Check.due("first", Straws.blind(5).best(0), 0);
        });
        Check.sentence("13: of several the first as a row", () -> {
            ShortStraw straw = Straws.with("short 3", Straws.kinds(0, 5, 4, 0));
            straw.place(2, 0);
            for (int k = 0; k < 3; k++) {
                Check.due("all are sent, best " + k, straw.best(k), k);
            }
        });
        Check.sentence("13: the best can be as uneven as can be", () -> {
            // whoever knows leaves it to the last one
            ShortStraw straw = Straws.kinds(0, 4, 4);
            Check.due("even", straw.best(-1), 1000000);
            Check.due("first", straw.best(0), 0);
            Check.due("second", straw.best(1), 1);
        });
        Check.sentence("13: the last of all orders can be the best", () -> {
            ShortStraw straw = Straws.with("shy 99 d=1&!p=3;shy 99 d=2&!p=2;shy 99 d=3&!p=1;shy 99 d=4&!p=0",
                Straws.kinds(0, 4, 0, 0, 0, 0));
            for (int k = 0; k < 5; k++) {
                Check.due("best " + k, straw.best(k), 4 - k);
            }
        });
        Check.sentence("13: one alone", () -> {
            Check.due("even", Straws.blind(1).best(-1), 0);
            Check.due("first", Straws.blind(1).best(0), 0);
        });
    }

    // ---- safest

    private static void safest() {
        Check.sentence("14: NONE: drawer", () -> {
            for (int d : NOBODIES) {
                Check.due("safest " + d, Straws.blind(2).safest(d, 0), -1);
            }
        });
        Check.sentence("14: NONE: what", () -> {
            for (int what : new int[] {-1, 2, Straws.LEAST, Straws.GREATEST}) {
                Check.due("what " + what, Straws.blind(2).safest(0, what), -1);
            }
        });
        Check.sentence("14: of several the first", () -> {
            ShortStraw straw = Straws.kinds(0, 3, 3, 4);
            Check.due("place", straw.safest(2, 0), 0);
            Check.due("likely", straw.safest(2, 1), 0);
        });
        Check.sentence("14: the last place", () -> Check.due("place", Straws.kinds(9, 2, 3, 3).safest(0, 0), 2));
        Check.sentence("14: of all places, that of now too", () -> {
            ShortStraw straw = Straws.with("shy 9 p=1", Straws.kinds(0, 3, 0, 3));
            Check.due("place", straw.safest(1, 0), 1);
        });
        Check.sentence("14: one alone", () -> {
            Check.due("place", Straws.blind(1).safest(0, 0), 0);
            Check.due("likely", Straws.blind(1).safest(0, 1), 1000000);
        });
    }

    // ---- enough

    private static void enough() {
        Check.sentence("15: NONE", () -> {
            for (int d : NOBODIES) {
                Check.due("enough " + d, Straws.blind(2).enough(d, 0), -1);
            }
        });
        Check.sentence("15: BAD: q below 0", () -> {
            Check.due("-1", Straws.blind(2).enough(0, -1), -2);
            Check.due("least", Straws.blind(2).enough(0, Straws.LEAST), -2);
        });
        Check.sentence("15: BAD: q above a million", () -> {
            Check.due("1000001", Straws.blind(2).enough(0, 1000001), -2);
            Check.due("greatest", Straws.blind(2).enough(0, Straws.GREATEST), -2);
        });
        Check.sentence("15: q 0", () -> Check.due("never sent", Straws.kinds(0, 4, 3).enough(0, 0), 0));
        Check.sentence("15: q a million", () -> Check.due("any", Straws.blind(1).enough(0, 1000000), 0));
        Check.sentence("15: q or less", () -> {
            Check.due("just so", Straws.blind(2).enough(0, 333333), 1);
            Check.due("one less", Straws.blind(2).enough(0, 333332), 2);
        });
        Check.sentence("15: 0 more", () -> Check.due("just so", Straws.blind(2).enough(0, 500000), 0));
        Check.sentence("15: 20 more at most", () -> Check.due("1 by 22", Straws.blind(2).enough(0, 45454), 20));
        Check.sentence("15: -5: none", () -> {
            Check.due("below 1 by 22", Straws.blind(2).enough(0, 45453), -5);
            Check.due("blind", Straws.blind(2).enough(0, 0), -5);
        });
        Check.sentence("15: more than a whole fist has, be it none", () ->
            // three short ones, and with one more the fourth straw is long
            Check.due("one more", Straws.with("short 3", Straws.blind(1)).enough(0, 750000), 1));
    }

    // ---- leans

    private static void leans() {
        Check.sentence("16: -5", () -> Check.due("nobody", new ShortStraw().leans(), -5));
        Check.sentence("16: of several the least number", () -> {
            ShortStraw straw = Straws.kinds(0, 1, 0, 2, 3);
            straw.place(3, 0);
            Check.due("alike", straw.leans(), 0);
        });
        Check.sentence("16: no pull at all", () -> Check.due("knowing", Straws.kinds(0, 4, 4).leans(), 0));
        Check.sentence("16: the last one", () -> Check.due("bold", Straws.kinds(1, 0, 1, 3, 2).leans(), 3));
        Check.sentence("16: by the first place", () ->
            Check.due("place 0", Straws.with("lean 9 d=2&p=0;lean 8 d=1&p=1", Straws.kinds(0, 0, 0, 0)).leans(), 2));
        Check.sentence("16: by a whole fist", () -> {
            ShortStraw straw = Straws.with("lean 9 d=1&l=1;lean 8 d=2&l=2", Straws.kinds(0, 0, 0, 0));
            straw.draw(999999);
            Check.due("two long ones", straw.leans(), 2);
        });
    }
}
