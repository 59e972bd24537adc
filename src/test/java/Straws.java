/** Objects that the tests begin with. */
final class Straws {
    static final int LEAST = Integer.MIN_VALUE, GREATEST = Integer.MAX_VALUE;

    private Straws() {
    }

    /** Drawers of these kinds, each with that v. */
    static ShortStraw kinds(int v, int... kinds) {
        ShortStraw straw = new ShortStraw();
        for (int kind : kinds) {
            straw.drawer(kind, v);
        }
        return straw;
    }

    /** So many blind ones: with k short ones of n straws each has k in n. */
    static ShortStraw blind(int n) {
        ShortStraw straw = new ShortStraw();
        for (int d = 0; d < n; d++) {
            straw.drawer(3, 0);
        }
        return straw;
    }

    /** As it is, with a hut more that holds then. */
    static ShortStraw with(String text, ShortStraw straw) {
        feed(text, straw);
        straw.hut();
        return straw;
    }

    static ShortStraw feed(String text, ShortStraw straw) {
        for (int i = 0; i < text.length(); i++) {
            straw.feed(text.charAt(i));
        }
        return straw;
    }

    /** What hut() says of a text, fed to a new object. */
    static int hut(String text) {
        return feed(text, new ShortStraw()).hut();
    }

    /** So many sent, drawer by drawer, all of them blind. */
    static ShortStraw sent(int... sents) {
        ShortStraw straw = blind(sents.length);
        for (int d = 0; d < sents.length; d++) {
            straw.sent(d, sents[d]);
        }
        return straw;
    }

    static ShortStraw seen(ShortStraw straw, int d, boolean isShort) {
        straw.see(d, isShort);
        return straw;
    }

    static ShortStraw booked(ShortStraw straw, int... numbers) {
        for (int d : numbers) {
            straw.book(d);
        }
        return straw;
    }

    /** Tape 0 is a row of a sort, with these items. */
    static ShortStraw tape(ShortStraw straw, int sort, long... items) {
        straw.tape(0, sort, items.length);
        for (int i = 0; i < items.length; i++) {
            straw.item(0, i, items[i]);
        }
        return straw;
    }
}
