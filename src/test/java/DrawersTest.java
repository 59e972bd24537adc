/** Promises 1 to 9: a new object, drawers, what is told of them, the order, the text, huts. */
public final class DrawersTest {
    public static void main(String[] args) {
        newObject();
        drawer();
        of();
        ofInTheMiddleOfANight();
        sent();
        row();
        place();
        feed();
        wholeFists();
        hutFaults();
        hutLimits();
        hutTests();
        told();
        Check.end("DrawersTest");
    }

    private static void newObject() {
        ShortStraw straw = new ShortStraw();
        for (int what = 0; what <= 5; what++) {
            Check.due("new count " + what, straw.count(what), 0);
        }
        Check.due("new short ones", straw.told(1), 1);
        Check.due("new long ones", straw.told(2), 0);
        Check.due("new next", straw.told(4), -5);
        Check.due("new first of the order", straw.told(10), ShortStraw.NONE);
        Check.due("new undo", straw.undo(), ShortStraw.STATE);
        for (int tape = 0; tape < 6; tape++) {
            Check.due("new tape " + tape, straw.item(tape, 0, 1), -11);
        }
        Check.due("NONE", ShortStraw.NONE, -1);
        Check.due("BAD", ShortStraw.BAD, -2);
        Check.due("STATE", ShortStraw.STATE, -3);
        Check.due("FULL", ShortStraw.FULL, -4);
        Check.due("NO", ShortStraw.NO, Long.MIN_VALUE);
    }

    private static void drawer() {
        ShortStraw straw = new ShortStraw();
        Check.due("kind below", straw.drawer(-1, 0), ShortStraw.NONE);
        Check.due("kind above", straw.drawer(7, 10), ShortStraw.NONE);
        Check.due("v below", straw.drawer(0, -1), ShortStraw.BAD);
        Check.due("v above", straw.drawer(6, 10), ShortStraw.BAD);
        Check.due("none came", straw.count(0), 0);
        for (int d = 0; d < 6; d++) {
            Check.due("drawer " + d, straw.drawer(6 - d, d), d);
            Check.due("it is last", straw.of(d, 3), d);
            Check.due("a long one for each but one", straw.told(2), d);
        }
        Check.due("full, kind", straw.drawer(7, 0), ShortStraw.NONE);
        Check.due("full, v", straw.drawer(0, 10), ShortStraw.BAD);
        Check.due("full", straw.drawer(0, 0), ShortStraw.FULL);
        Check.due("six", straw.count(0), 6);
    }

    private static void of() {
        ShortStraw straw = new ShortStraw();
        straw.drawer(0, 9);
        straw.drawer(1, 4);
        straw.drawer(2, 4);
        straw.drawer(3, 4);
        straw.drawer(4, 4);
        straw.drawer(5, 4);
        int[] pulls = {10, 6, 14, 10, 0, 28};
        // one short, five long: a million times the pull by the pull and fifty
        int[] chances = {166666, 107142, 218750, 166666, 0, 358974};
        for (int d = 0; d < 6; d++) {
            Check.due("kind", straw.of(d, 0), d);
            Check.due("v", straw.of(d, 1), d == 0 ? 9 : 4);
            Check.due("sent", straw.of(d, 2), 0);
            Check.due("place", straw.of(d, 3), d);
            Check.due("pull", straw.of(d, 4), pulls[d]);
            Check.due("chance", straw.of(d, 5), chances[d]);
            Check.due("what below", straw.of(d, -1), ShortStraw.NONE);
            Check.due("what above", straw.of(d, 6), ShortStraw.NONE);
        }
        Check.due("nobody", straw.of(6, 0), ShortStraw.NONE);
        Check.due("nobody below", straw.of(-1, 0), ShortStraw.NONE);
    }

    /** PULL and CHANCE follow the straws that are left, not those of a whole fist. */
    private static void ofInTheMiddleOfANight() {
        ShortStraw straw = new ShortStraw();
        straw.drawer(4, 1);
        straw.drawer(0, 0);
        straw.drawer(0, 0);
        straw.drawer(1, 9);
        Check.hut(straw, "short 2;lean 20 l=1&s=2", 0);
        Check.due("as many long ones: it knows", straw.of(0, 4), 0);
        Check.due("plain, two long ones", straw.of(1, 4), 10);
        Check.due("long", straw.draw(999999), 0);
        Check.due("fewer long ones: as keen", straw.of(0, 4), 29);
        // 2 times 29, by that and 10
        Check.due("its chance", straw.of(0, 5), 852941);
        Check.due("plain, one long one", straw.of(1, 4), 30);
        Check.due("keen, one long one", straw.of(3, 4), 21);
        Check.due("short", straw.draw(0), 11);
        Check.due("plain again", straw.of(2, 4), 10);
        Check.due("evens", straw.of(2, 5), 500000);
        Check.due("keen below nothing", straw.of(3, 4), 1);
    }

    private static void sent() {
        ShortStraw straw = new ShortStraw();
        straw.drawer(0, 0);
        Check.due("sent of nobody", straw.sent(1, -1), ShortStraw.NONE);
        Check.due("sent below", straw.sent(0, -1), ShortStraw.BAD);
        Check.due("sent above", straw.sent(0, 1000), ShortStraw.BAD);
        Check.due("sent at first", straw.sent(0, 999), 0);
        Check.due("sent then", straw.of(0, 2), 999);
        Check.due("999 at most", straw.draw(0), 110);
        Check.due("still 999", straw.sent(0, 0), 999);
        Check.due("short", straw.draw(0), 110);
        Check.due("once more", straw.of(0, 2), 1);
    }

    private static void row() {
        ShortStraw straw = new ShortStraw();
        straw.drawer(6, 3);
        straw.drawer(3, 3);
        Check.due("row of nobody", straw.row(2, 0, -1), ShortStraw.NONE);
        Check.due("part below", straw.row(0, -1, 0), ShortStraw.NONE);
        Check.due("part above", straw.row(1, 4, 10), ShortStraw.NONE);
        Check.due("n below", straw.row(0, 0, -1), ShortStraw.BAD);
        Check.due("n above, another kind", straw.row(1, 0, 10), ShortStraw.BAD);
        Check.due("another kind", straw.row(1, 0, 1), ShortStraw.STATE);
        Check.due("n least", straw.row(0, 3, 0), 5);
        Check.due("n greatest", straw.row(0, 3, 9), 0);
        Check.due("as at first", straw.row(0, 3, 5), 9);
        for (int part = 0; part < 4; part++) {
            Check.due("row at first", straw.row(0, part, 9 - part), 5);
            Check.due("row then", straw.row(0, part, 9 - part), 9 - part);
        }
        int[] pulls = {18, 16, 14, 12, 18};
        for (int sent = 0; sent < 5; sent++) {
            straw.sent(0, sent);
            Check.due("told by " + sent, straw.of(0, 4), pulls[sent]);
        }
        straw.sent(0, 999);
        Check.due("told by 999", straw.of(0, 4), 12);
    }

    private static void place() {
        ShortStraw straw = new ShortStraw();
        for (int d = 0; d < 4; d++) {
            straw.drawer(3, 0);
        }
        Check.due("place of nobody", straw.place(4, 0), ShortStraw.NONE);
        Check.due("place of nobody below", straw.place(-1, 0), ShortStraw.NONE);
        Check.due("no such place", straw.place(0, 4), ShortStraw.NONE);
        Check.due("no such place below", straw.place(0, -1), ShortStraw.NONE);
        Check.due("to the end", straw.place(0, 3), 0);
        order(straw, 1, 2, 3, 0);
        Check.due("to the start", straw.place(3, 0), 2);
        order(straw, 3, 1, 2, 0);
        Check.due("inward", straw.place(0, 1), 3);
        order(straw, 3, 0, 1, 2);
        Check.due("long", straw.draw(999999), 3);
        Check.due("one is drawn", straw.told(3), 1);
        Check.due("a refusal leaves the fist", straw.place(0, 4), ShortStraw.NONE);
        Check.due("still drawn", straw.told(3), 1);
        Check.due("where it is", straw.place(0, 1), 1);
        order(straw, 3, 0, 1, 2);
        Check.due("the fist is whole", straw.told(3), 0);
        Check.due("all long ones", straw.told(2), 3);
        straw.draw(999999);
        Check.due("a fifth", straw.drawer(0, 0), 4);
        Check.due("the fist is whole for it", straw.told(3), 0);
        order(straw, 3, 0, 1, 2, 4);
    }

    private static void order(ShortStraw straw, int... drawers) {
        for (int k = 0; k < drawers.length; k++) {
            Check.due("order " + k, straw.told(10 + k), drawers[k]);
            Check.due("place of " + drawers[k], straw.of(drawers[k], 3), k);
        }
        Check.due("order beyond", straw.told(10 + drawers.length), ShortStraw.NONE);
    }

    private static void feed() {
        ShortStraw straw = new ShortStraw();
        Check.due("sign below", straw.feed(-1), ShortStraw.BAD);
        Check.due("sign above", straw.feed(128), ShortStraw.BAD);
        Check.due("sign 0", straw.feed(0), 1);
        Check.due("sign 127", straw.feed(127), 2);
        Check.due("two", straw.count(4), 2);
        for (int i = 3; i <= 100; i++) {
            Check.due("feed", straw.feed('m'), i);
        }
        Check.due("full, sign", straw.feed(128), ShortStraw.BAD);
        Check.due("full", straw.feed('m'), ShortStraw.FULL);
        Check.due("hundred", straw.count(4), 100);
        Check.due("the fault", straw.hut(), -10);
        Check.due("empty", straw.count(4), 0);
    }

    private static void wholeFists() {
        fist("short 2;more 1", 3, 2, 2);
        fist("short 0", 3, 1, 2);
        fist("short 4", 3, 3, 0);
        fist("short 99", 2, 3, 0);
        fist("short 2;short 1;short 3;short 02", 5, 2, 3);
        fist("more 9", 1, 1, 9);
        fist("more 10", 1, 1, 9);
        fist("more 99;more 05", 1, 1, 5);
        fist("more 3;more 0", 1, 1, 0);
        fist("short 3;more 1", 0, 3, 0);
        fist("lean 5 d=0", 6, 1, 5);
    }

    private static void fist(String text, int drawers, int shorts, int longs) {
        ShortStraw straw = new ShortStraw();
        for (int d = 0; d < drawers; d++) {
            straw.drawer(3, 0);
        }
        if (drawers > 1) {
            straw.draw(999999);
        }
        Check.hut(straw, text, 0);
        Check.due("short ones of " + text, straw.told(1), shorts);
        Check.due("long ones of " + text, straw.told(2), longs);
        Check.due("drawn of " + text, straw.told(3), 0);
    }

    private static void hutFaults() {
        ShortStraw straw = new ShortStraw();
        straw.drawer(3, 0);
        straw.drawer(3, 0);
        Check.hut(straw, "short 2", 0);
        String[] texts = {
            "", "x", "s", "sh", "sht", "shy", "shyx", "shortx", "shot", "leam", "more1", "more", "more ",
            "more x", "more 1x", "more 123", "more 1;", "more 1;x", ";", "lean 1", "lean 1;", "lean 1 ", "lean 1  d=1",
            "lean 1 d", "lean 1 dd", "lean 1 d=", "lean 1 d=x", "lean 1 d=123", "lean 1 d!1", "lean 1 q=1",
            "lean 1 d=1&", "lean 1 d=1|", "lean 1 d=1&&", "lean 1 d=1 ", "lean 1 (d=1", "lean 1 (d=1;", "lean 1 d=1)",
            "lean 1 ()", "lean 1 !", "lean 1 !;", "short 1 d=1", "Short 1", " short 1", "shy 123 d=1", "lean d=1",
        };
        int[] places = {
            0, 0, 1, 2, 2, 3, 3, 5, 3, 3, 4, 4, 5,
            5, 6, 7, 7, 7, 0, 6, 6, 7, 7,
            8, 8, 9, 9, 11, 8, 7,
            11, 11, 11, 10, 11, 11, 10,
            8, 8, 8, 7, 0, 0, 6, 5,
        };
        Check.due("the test itself", texts.length, places.length);
        straw.draw(999999);
        for (int i = 0; i < texts.length && i < places.length; i++) {
            Check.fault(straw, texts[i], places[i]);
        }
        Check.due("none came", straw.count(1), 1);
        Check.due("the fist is as it was", straw.told(3), 1);
        Check.due("the short one is gone", straw.told(1), 1);
        straw.place(0, 0);
        Check.due("the one that held holds", straw.told(1), 2);
        Check.hut(straw, "short 1", 1);
        Check.due("the newest holds", straw.told(1), 1);
    }

    private static void hutLimits() {
        ShortStraw straw = new ShortStraw();
        Check.fault(straw, "lean 1 (((((d=1)))))", 11);
        Check.fault(straw, "lean 1 !!!!!d=1", 11);
        Check.fault(straw, "lean 1 (!(!!d=1))", 11);
        Check.fault(straw, "lean 1 !(d=1&(!(!d=1)))", 15);
        Check.fault(straw, "more 1;more 1;more 1;more 1;more 1;more 1;more 1;more 1;more 1;more 1;more 1", 69);
        Check.hut(straw, "lean 1 ((((d=1))))", 0);
        Check.hut(straw, "lean 1 !!!!d=1&!!!!d=1|(!(!d=1))", 1);
        Check.hut(straw, "more 1;more 1;more 1;more 1;more 1;more 1;more 1;more 1;more 1;more 7", 2);
        Check.due("the tenth clause counts", straw.told(2), 6);
        Check.hut(straw, "more 1", 3);
        Check.hut(straw, "more 2", 4);
        Check.hut(straw, "more 3", 5);
        Check.feed(straw, "more 4");
        Check.due("six are there", straw.hut(), ShortStraw.FULL);
        Check.due("the text stays", straw.count(4), 6);
        Check.due("a bad one comes behind", straw.feed(';'), 7);
        Check.due("six are there still", straw.hut(), ShortStraw.FULL);
        Check.due("huts", straw.count(1), 6);
        Check.due("the sixth holds", straw.told(2), 2);
        longHut();
    }

    private static void longHut() {
        ShortStraw straw = new ShortStraw();
        straw.drawer(0, 0);
        StringBuilder text = new StringBuilder("lean 40 d=1");
        for (int i = 0; i < 22; i++) {
            text.append("|d=1");
        }
        text.append("0");
        Check.due("the test itself", text.length(), 100);
        Check.hut(straw, text.toString(), 0);
        Check.due("none of its tests holds", straw.of(0, 4), 10);
        text.setCharAt(text.length() - 2, '0');
        Check.hut(straw, text.toString(), 1);
        Check.due("its last test holds", straw.of(0, 4), 50);
    }

    /** The third of four drawers, of kind 2 and sent 13 times, with 2 short and 3 long ones. */
    private static void hutTests() {
        holds("d=2", true);
        holds("d<2", false);
        holds("d>1", true);
        holds("k=2", true);
        holds("k>2", false);
        holds("n=3", true);
        holds("n=13", false);
        holds("s=2", true);
        holds("l=3", true);
        holds("l>03", false);
        holds("p=1", true);
        holds("p<01", false);
        holds("!p=1", false);
        holds("!!p=1", true);
        holds("!p=1|d=2", true);
        holds("!(p=1|d=2)", false);
        holds("p=1|d=9&d=8", true);
        holds("(p=1|d=9)&d=8", false);
        holds("d=9&d=8|p=1", true);
        holds("p=1&d=2&k=9", false);
        holds("p=9|d=9|k=2", true);
        holds("!p=9&!(d=2&k=9)", true);
    }

    private static void holds(String test, boolean want) {
        ShortStraw straw = new ShortStraw();
        straw.drawer(0, 0);
        straw.drawer(0, 0);
        straw.drawer(2, 1);
        straw.drawer(0, 0);
        straw.place(2, 1);
        straw.sent(2, 13);
        Check.hut(straw, "short 2;more 1;lean 20 " + test + ";shy 7 " + test, 0);
        Check.due(test, straw.of(2, 4), want ? 24 : 11);
    }

    private static void told() {
        ShortStraw straw = new ShortStraw();
        straw.drawer(3, 0);
        straw.drawer(3, 0);
        straw.drawer(3, 0);
        Check.due("night", straw.told(0), 0);
        Check.due("short ones", straw.told(1), 1);
        Check.due("long ones", straw.told(2), 2);
        Check.due("drawn", straw.told(3), 0);
        Check.due("next", straw.told(4), 0);
        for (int what = 5; what < 10; what++) {
            Check.due("told " + what, straw.told(what), ShortStraw.NONE);
        }
        Check.due("third", straw.told(12), 2);
        Check.due("fourth", straw.told(13), ShortStraw.NONE);
        Check.due("below", straw.told(-1), ShortStraw.NONE);
        Check.due("least", straw.told(Integer.MIN_VALUE), ShortStraw.NONE);
        Check.due("greatest", straw.told(Integer.MAX_VALUE), ShortStraw.NONE);
        straw.draw(999999);
        Check.due("one long one less", straw.told(2), 1);
        Check.due("one is drawn", straw.told(3), 1);
        Check.due("the second is next", straw.told(4), 1);
        straw.draw(0);
        Check.due("the night is over", straw.told(0), 1);
        Check.due("the fist is whole", straw.told(2), 2);
        Check.due("the first is next", straw.told(4), 0);
    }
}
