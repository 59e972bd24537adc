/** Promises 22 to 27, and the terms behind them: each sentence that names an edge, by a test of its own. */
public final class SeenEdgesTest {
    private static final long NO = Long.MIN_VALUE;
    private static final int[] NO_NUMBERS = {-2, 1000000, Straws.LEAST, Straws.GREATEST};

    public static void main(String[] args) {
        see();
        fits();
        fitsByLongOnes();
        odds();
        mean();
        book();
        looked();
        Check.end("SeenEdgesTest");
    }

    // ---- see

    private static ShortStraw sixSeen(ShortStraw straw) {
        for (int i = 0; i < 6; i++) {
            straw.see(i, true);
        }
        return straw;
    }

    private static void see() {
        Check.sentence("22: BAD: d", () -> {
            for (int d : NO_NUMBERS) {
                Check.due("see " + d, new ShortStraw().see(d, true), -2);
            }
        });
        Check.sentence("22: d 0 to 999999", () -> {
            Check.due("0", new ShortStraw().see(0, false), 1);
            Check.due("999999", new ShortStraw().see(999999, true), 1);
        });
        Check.sentence("22: FULL: 6", () -> {
            ShortStraw straw = new ShortStraw();
            for (int i = 1; i <= 6; i++) {
                Check.due("see", straw.see(0, true), i);
            }
            Check.due("the seventh", straw.see(0, true), -4);
            Check.due("seen", straw.count(2), 6);
        });
        Check.sentence("22: d -1: none then, whatever the other is", () -> {
            for (boolean other : new boolean[] {false, true}) {
                ShortStraw straw = sixSeen(new ShortStraw());
                Check.due("none then", straw.see(-1, other), 0);
                Check.due("seen", straw.count(2), 0);
                Check.due("the first again", straw.see(5, other), 1);
            }
        });
        Check.sentence("22: d -1 with none there", () -> Check.due("none", new ShortStraw().see(-1, true), 0));
    }

    // ---- fits

    private static void fits() {
        Check.sentence("23: none seen", () -> {
            Check.due("nobody", new ShortStraw().fits(), 14);
            Check.due("five", Straws.blind(5).fits(), 14);
            Check.due("none any more", Straws.seen(sixSeen(Straws.blind(2)), -1, true).fits(), 14);
        });
        Check.sentence("23: 1 to 3 as bits 1 to 3", () -> {
            // of six 166666, 333333, 500000
            Check.due("3 alone", Straws.seen(Straws.blind(6), 333333, true).fits(), 8);
            Check.due("1 alone", Straws.seen(Straws.blind(6), 166666, false).fits(), 2);
            Check.due("none", Straws.seen(Straws.blind(6), 500000, true).fits(), 0);
        });
        Check.sentence("23: by d just below chance, and by chance itself", () -> {
            Check.due("below", Straws.seen(Straws.blind(6), 166665, true).fits(), 14);
            Check.due("itself", Straws.seen(Straws.blind(6), 166666, true).fits(), 12);
        });
        Check.sentence("23: not so, if more have drawn than there are", () -> {
            Check.due("nobody", Straws.seen(new ShortStraw(), 0, true).fits(), 0);
            ShortStraw straw = Straws.with("more 9", Straws.blind(2));
            Check.due("two", Straws.seen(Straws.seen(straw, 999999, false), 999999, false).fits(), 14);
            Check.due("three", Straws.seen(straw, 999999, false).fits(), 0);
        });
        Check.sentence("23: by a chance without long ones", () -> {
            // who finds no long one is certain: by one short one the last, by two the second, by three the first
            ShortStraw straw = Straws.seen(Straws.seen(Straws.blind(3), 999999, false), 999999, false);
            Check.due("two long", straw.fits(), 2);
            Check.due("the last long", Straws.seen(straw, 999999, false).fits(), 0);
        });
        Check.sentence("23: not so, if no short ones were left", () -> {
            ShortStraw straw = Straws.seen(Straws.blind(4), 0, true);
            Check.due("one", straw.fits(), 14);
            Check.due("two", Straws.seen(straw, 0, true).fits(), 12);
            Check.due("three", Straws.seen(straw, 0, true).fits(), 8);
            Check.due("four", Straws.seen(straw, 0, true).fits(), 0);
        });
        Check.sentence("23: not so behind the last short one, be the next one long", () ->
            Check.due("long", Straws.seen(Straws.seen(Straws.blind(4), 0, true), 999999, false).fits(), 12));
        Check.sentence("23: six seen of six", () -> {
            ShortStraw straw = Straws.with("more 9", Straws.blind(6));
            for (int i = 0; i < 6; i++) {
                straw.see(999999, false);
            }
            Check.due("all long", straw.fits(), 14);
        });
        Check.sentence("23: by a whole fist and the first of the order", () -> {
            ShortStraw straw = Straws.with("more 1", Straws.kinds(0, 3, 3, 4));
            straw.draw(999999);
            straw.draw(999999);
            Check.due("the first is blind", Straws.seen(straw, 0, false).fits(), 0);
            straw.place(2, 0);
            // as many long ones as short ones, or more, by 1 and by 2
            Check.due("the first knows", straw.fits(), 6);
        });
    }

    private static void fitsByLongOnes() {
        Check.sentence("23: so many long ones fewer", () -> {
            // one drawer with 1 and 2: by 2 short ones one long one, by 3 none
            ShortStraw straw = Straws.with("more 2", Straws.blind(1));
            Check.due("666666 and a million", Straws.seen(straw, 666666, true).fits(), 8);
        });
        Check.sentence("23: so many long ones more", () -> {
            // 2 and 1: by 1 short one two long ones
            ShortStraw straw = Straws.with("short 2", Straws.blind(3));
            Check.due("333333", Straws.seen(straw, 333333, false).fits(), 2);
        });
        Check.sentence("23: 0 long ones at least", () -> {
            Check.due("one alone", Straws.seen(Straws.blind(1), 999999, true).fits(), 14);
            Check.due("two", Straws.seen(Straws.blind(2), 999999, true).fits(), 12);
        });
        Check.sentence("23: more than a whole fist has, be it none", () -> {
            // 3 and none: by 1 short one two long ones, by 2 one
            ShortStraw straw = Straws.with("short 3", Straws.blind(1));
            Check.due("333333", Straws.seen(straw, 333333, false).fits(), 2);
            straw.see(-1, true);
            Check.due("666666", Straws.seen(straw, 666666, false).fits(), 6);
        });
    }

    // ---- odds, mean

    private static void odds() {
        Check.sentence("24: NO: no such drawer", () -> {
            for (int d : new int[] {-1, 2, 6, Straws.LEAST, Straws.GREATEST}) {
                Check.due("odds " + d, Straws.blind(2).odds(d, 0), NO);
            }
        });
        Check.sentence("24: NO: no such part", () -> {
            for (int part : new int[] {-1, 2, Straws.LEAST, Straws.GREATEST}) {
                Check.due("part " + part, Straws.blind(2).odds(0, part), NO);
            }
        });
        Check.sentence("24: 0 in lowest terms", () -> {
            Check.due("above", Straws.kinds(0, 4, 3).odds(0, 0), 0);
            Check.due("below", Straws.kinds(0, 4, 3).odds(0, 1), 1);
        });
        Check.sentence("24: 1 in lowest terms", () -> {
            Check.due("above", Straws.blind(1).odds(0, 0), 1);
            Check.due("below", Straws.blind(1).odds(0, 1), 1);
        });
        Check.sentence("24: lowest as it stands", () -> {
            Check.due("above", Straws.blind(3).odds(0, 0), 333333);
            Check.due("below", Straws.blind(3).odds(0, 1), 1000000);
        });
    }

    private static void mean() {
        Check.sentence("25: NO: nobody", () -> {
            Check.due("above", new ShortStraw().mean(0), NO);
            Check.due("below", new ShortStraw().mean(1), NO);
        });
        Check.sentence("25: NO: no such part", () -> {
            for (int part : new int[] {-1, 2, Straws.LEAST, Straws.GREATEST}) {
                Check.due("part " + part, Straws.blind(2).mean(part), NO);
            }
        });
        Check.sentence("25: one alone", () -> {
            Check.due("above", Straws.blind(1).mean(0), 1);
            Check.due("below", Straws.blind(1).mean(1), 1);
        });
        Check.sentence("25: lowest as it stands", () -> {
            // 250000, and 750000 by 333333, cut
            ShortStraw straw = Straws.with("more 2", Straws.blind(2));
            Check.due("above", straw.mean(0), 499999);
            Check.due("below", straw.mean(1), 1000000);
        });
        Check.sentence("25: all sent", () -> {
            ShortStraw straw = Straws.with("short 3", Straws.blind(3));
            Check.due("above", straw.mean(0), 3);
            Check.due("below", straw.mean(1), 1);
        });
        Check.sentence("25: nobody sent", () -> {
            ShortStraw straw = Straws.with("more 2", Straws.kinds(0, 4, 4));
            Check.due("above", straw.mean(0), 0);
            Check.due("below", straw.mean(1), 1);
        });
    }

    // ---- book, looked

    private static void book() {
        Check.sentence("26: BAD: d", () -> {
            for (int d : NO_NUMBERS) {
                Check.due("book " + d, new ShortStraw().book(d), -2);
            }
        });
        Check.sentence("26: d 0 to 999999", () -> {
            Check.due("0", new ShortStraw().book(0), 1);
            Check.due("999999", new ShortStraw().book(999999), 1);
        });
        Check.sentence("26: FULL: 8", () -> {
            ShortStraw straw = new ShortStraw();
            for (int i = 1; i <= 8; i++) {
                Check.due("book", straw.book(0), i);
            }
            Check.due("the ninth", straw.book(0), -4);
            Check.due("booked", straw.count(3), 8);
        });
        Check.sentence("26: d -1: it is empty then", () -> {
            ShortStraw straw = Straws.booked(Straws.blind(1), 1, 2, 3, 4, 5, 6, 7, 8);
            Check.due("empty then", straw.book(-1), 0);
            Check.due("booked", straw.count(3), 0);
            Check.due("looked", straw.looked(), -5);
            Check.due("the first again", straw.book(9), 1);
        });
        Check.sentence("26: d -1 with none there", () -> Check.due("none", new ShortStraw().book(-1), 0));
    }

    private static void looked() {
        Check.sentence("27: -5: nobody is there", () ->
            Check.due("looked", Straws.booked(new ShortStraw(), 0).looked(), -5));
        Check.sentence("27: -5: an empty book", () -> Check.due("looked", Straws.blind(1).looked(), -5));
        Check.sentence("27: -5: none is short", () -> {
            ShortStraw straw = Straws.with("more 1", Straws.blind(1));
            int[] book = {500000, 500000, 500000, 500000, 500000, 500000, 500000, 500000};
            Check.due("looked", Straws.booked(straw, book).looked(), -5);
        });
        Check.sentence("27: the first of several", () ->
            Check.due("looked", Straws.booked(Straws.blind(1), 9, 9, 9).looked(), 0));
        Check.sentence("27: the eighth", () -> {
            ShortStraw straw = Straws.with("more 1", Straws.blind(1));
            int[] book = {500000, 500000, 500000, 500000, 500000, 500000, 500000, 499999};
            Check.due("looked", Straws.booked(straw, book).looked(), 7);
        });
        Check.sentence("27: night behind night, each from a whole fist", () -> {
            // of three 333333, of two 500000
            ShortStraw straw = Straws.with("more 1", Straws.blind(2));
            Check.due("the third", Straws.booked(straw, 333333, 500000, 333332).looked(), 2);
            straw.book(-1);
            Check.due("the fourth", Straws.booked(straw, 333333, 500000, 333333, 499999).looked(), 3);
        });
        Check.sentence("27: from a whole fist, be it drawn from", () -> {
            ShortStraw straw = Straws.with("more 1", Straws.blind(2));
            straw.draw(999999);
            Check.due("looked", Straws.booked(straw, 333333).looked(), -5);
        });
        Check.sentence("27: the last of a night without long ones", () ->
            Check.due("looked", Straws.booked(Straws.blind(2), 999999, 999999).looked(), 1));
    }
}
