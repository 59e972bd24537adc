/** Promises 7 and 8, and the terms on huts: each sentence that names an edge, by a test of its own. */
public final class HutEdgesTest {
    public static void main(String[] args) {
        feeds();
        huts();
        clauses();
        numbers();
        tests();
        nested();
        faults();
        straws();
        Check.end("HutEdgesTest");
    }

    private static String times(String text, int n) {
        StringBuilder made = new StringBuilder();
        for (int i = 0; i < n; i++) {
            made.append(text);
        }
        return made.toString();
    }

    private static void isHut(String text) {
        Check.due("hut " + text, Straws.hut(text), 0);
    }

    private static void fault(String text, int place) {
        Check.due("fault of " + text, Straws.hut(text), -10 - place);
    }

    // ---- the text

    private static void feeds() {
        Check.sentence("7: BAD: a sign below 0", () -> {
            Check.due("-1", new ShortStraw().feed(-1), -2);
            Check.due("least", new ShortStraw().feed(Straws.LEAST), -2);
        });
        Check.sentence("7: BAD: a sign above 127", () -> {
            Check.due("128", new ShortStraw().feed(128), -2);
            Check.due("greatest", new ShortStraw().feed(Straws.GREATEST), -2);
        });
        Check.sentence("7: a sign 0 to 127", () -> {
            Check.due("0", new ShortStraw().feed(0), 1);
            Check.due("127", new ShortStraw().feed(127), 1);
        });
        Check.sentence("7: FULL: 100 bytes at most", () -> {
            ShortStraw straw = Straws.feed(times("m", 99), new ShortStraw());
            Check.due("the hundredth", straw.feed('m'), 100);
            Check.due("one more", straw.feed('m'), -4);
            Check.due("bytes", straw.count(4), 100);
        });
    }

    // ---- hut

    private static ShortStraw sixHuts() {
        ShortStraw straw = new ShortStraw();
        for (int h = 0; h < 6; h++) {
            Straws.feed("more " + h, straw);
            Check.due("hut " + h, straw.hut(), h);
        }
        return straw;
    }

    private static void huts() {
        Check.sentence("8: FULL: there are 6", () -> {
            ShortStraw straw = sixHuts();
            Check.due("the seventh", Straws.feed("more 9", straw).hut(), -4);
            Check.due("huts", straw.count(1), 6);
        });
        Check.sentence("8: full, the text stays", () -> {
            ShortStraw straw = Straws.feed("more 9", sixHuts());
            straw.hut();
            Check.due("bytes", straw.count(4), 6);
            Check.due("the next byte", straw.feed(';'), 7);
        });
        Check.sentence("8: full, the one that held holds", () -> {
            ShortStraw straw = Straws.with("more 9", sixHuts());
            straw.drawer(0, 0);
            Check.due("long", straw.told(2), 5);
        });
        Check.sentence("8: the text is empty then, if it is a hut", () ->
            Check.due("bytes", Straws.with("more 9", new ShortStraw()).count(4), 0));
        Check.sentence("8: the text is empty then, if it is none", () ->
            Check.due("bytes", Straws.with("more x", new ShortStraw()).count(4), 0));
        Check.sentence("8: by a fault the one that held holds", () -> {
            ShortStraw straw = Straws.with("more 7;short x", Straws.with("more 4", Straws.blind(1)));
            Check.due("huts", straw.count(1), 1);
            straw.place(0, 0);
            Check.due("long", straw.told(2), 4);
        });
        Check.sentence("8: by a fault without a hut there is none still", () -> {
            ShortStraw straw = Straws.with("more 7;", Straws.blind(2));
            straw.place(0, 0);
            Check.due("huts", straw.count(1), 0);
            Check.due("long", straw.told(2), 1);
        });
        Check.sentence("8: a text behind a fault is read from its own start", () -> {
            ShortStraw straw = Straws.with("lean 1 (d", Straws.blind(1));
            Check.due("hut", Straws.feed("more 2", straw).hut(), 0);
            Check.due("long", straw.told(2), 2);
        });
        Check.sentence("terms: the newest hut holds", () -> {
            ShortStraw straw = Straws.with("short 3", Straws.with("lean 5 d=0;more 4", Straws.kinds(0, 0)));
            Check.due("plain", straw.of(0, 4), 10);
            Check.due("long", straw.told(2), 0);
            Check.due("short", straw.told(1), 3);
        });
    }

    // ---- clauses

    private static void clauses() {
        Check.sentence("terms: 1 clause at least", () -> fault("", 0));
        Check.sentence("terms: 1 clause", () -> isHut("more 1"));
        Check.sentence("terms: 10 clauses", () -> {
            isHut(times("more 1;", 9) + "more 1");
            ShortStraw straw = Straws.with(times("more 1;", 9) + "short 3", new ShortStraw());
            Check.due("the tenth counts", straw.told(1), 3);
        });
        Check.sentence("terms: 10 clauses at most", () -> {
            fault(times("more 1;", 10) + "more 1", 69);
            fault(times("more 1;", 10), 69);
            fault(times("shy 1 d=1;", 9) + "more 1;", 96);
        });
        Check.sentence("terms: ; between", () -> {
            fault(";more 1", 0);
            fault("more 1;", 7);
            fault("more 1;;more 1", 7);
            fault("more 1,more 1", 6);
            fault("lean 1 d=1more 1", 10);
        });
        Check.sentence("terms: one blank ahead of each part", () -> {
            fault("more1", 4);
            fault("more  1", 5);
            fault("shy 1d=1", 5);
            fault("shy 1  d=1", 6);
            fault("lean\t1 d=1", 4);
        });
        Check.sentence("terms: no other blank", () -> {
            fault(" more 1", 0);
            fault("more 1 ", 6);
            fault("more 1 ;more 1", 6);
            fault("more 1; more 1", 7);
            fault("shy 1 d =1", 7);
            fault("shy 1 d=1 &d=1", 9);
            fault("shy 1 ( d=1)", 7);
        });
        Check.sentence("terms: lean and shy have an E, short and more have none", () -> {
            fault("lean 1", 6);
            fault("shy 1", 5);
            fault("lean 1;more 1", 6);
            fault("short 1 d=1", 7);
            fault("more 1 d=1", 6);
        });
    }

    // ---- numbers of 1 or 2 digits

    private static void numbers() {
        Check.sentence("terms: n has a digit at least", () -> {
            fault("more ", 5);
            fault("more x", 5);
            fault("more ;", 5);
            fault("short -1", 6);
            fault("lean  d=1", 5);
        });
        Check.sentence("terms: n of 1 or 2 digits", () -> {
            isHut("more 0");
            isHut("more 9");
            isHut("short 00;lean 99 d=1;shy 05 d=1");
        });
        Check.sentence("terms: n of no 3 digits", () -> {
            fault("more 123", 7);
            fault("short 001", 8);
            fault("lean 100 d=1", 7);
            fault("shy 999 d=1", 6);
        });
        Check.sentence("terms: the digits end at 0 and 9", () -> {
            fault("more /", 5);
            fault("more :", 5);
            fault("more 1/", 6);
            fault("more 1:", 6);
        });
        Check.sentence("terms: a test's number has a digit at least", () -> {
            fault("shy 1 d=", 8);
            fault("shy 1 d=&", 8);
            fault("shy 1 d=d", 8);
            fault("shy 1 d=-1", 8);
        });
        Check.sentence("terms: a test's number of 1 or 2 digits", () -> {
            isHut("shy 1 d=0");
            isHut("shy 1 d=00");
            isHut("shy 1 d=99");
        });
        Check.sentence("terms: a test's number of no 3 digits", () -> {
            fault("shy 1 d=100", 10);
            fault("shy 1 d=001", 10);
        });
    }

    // ---- tests

    private static void tests() {
        Check.sentence("terms: a test's letter", () -> {
            for (char letter = 0; letter < 128; letter++) {
                String text = "shy 1 " + letter;
                fault(text, "dknslp(!".indexOf(letter) >= 0 ? 7 : 6);
            }
        });
        Check.sentence("terms: a test's < or = or >", () -> {
            for (char sign = 0; sign < 128; sign++) {
                fault("shy 1 k" + sign, sign >= '<' && sign <= '>' ? 8 : 7);
            }
        });
        Check.sentence("terms: one sign compares, not two", () -> {
            fault("shy 1 k<=1", 8);
            fault("shy 1 k==1", 8);
            fault("shy 1 k!=1", 7);
        });
        Check.sentence("terms: T or T|E", () -> {
            isHut("shy 1 d=1|d=2|d=3");
            fault("shy 1 |d=1", 6);
            fault("shy 1 d=1|", 10);
            fault("shy 1 d=1||d=2", 10);
        });
        Check.sentence("terms: F or F&T", () -> {
            isHut("shy 1 d=1&d=2&d=3");
            fault("shy 1 &d=1", 6);
            fault("shy 1 d=1&", 10);
            fault("shy 1 d=1&&d=2", 10);
            fault("shy 1 d=1|&d=2", 10);
        });
        Check.sentence("terms: !F", () -> {
            isHut("shy 1 !d=1&!(d=1)&!!d=1");
            fault("shy 1 !", 7);
            fault("shy 1 d=1!", 9);
            fault("shy 1 !&d=1", 7);
        });
        Check.sentence("terms: (E)", () -> {
            isHut("shy 1 (d=1|d=2)&(d=3)");
            fault("shy 1 ()", 7);
            fault("shy 1 (d=1", 10);
            fault("shy 1 (d=1;", 10);
            fault("shy 1 d=1)", 9);
            fault("shy 1 (d=1))", 11);
            fault("shy 1 (d=1)(d=1)", 11);
        });
    }

    // ---- ( and ! within others

    private static void nested() {
        Check.sentence("terms: a ( within 3 others is one", () -> isHut("shy 1 ((((d=1))))"));
        Check.sentence("terms: a ( within 4 others is none", () -> fault("shy 1 (((((d=1)))))", 10));
        Check.sentence("terms: a ! within 3 others is one", () -> isHut("shy 1 !!!!d=1"));
        Check.sentence("terms: a ! within 4 others is none", () -> fault("shy 1 !!!!!d=1", 10));
        Check.sentence("terms: ( and ! are others to each other", () -> {
            isHut("shy 1 !(!(d=1))");
            fault("shy 1 !(!(!d=1))", 10);
            fault("shy 1 (!(!(d=1)))", 10);
            fault("shy 1 ((((!d=1))))", 10);
            fault("shy 1 !!!!(d=1)", 10);
        });
        Check.sentence("terms: what is closed is no other any more", () -> {
            isHut("shy 1 !!!!d=1&!!!!d=1|!!!!d=1");
            isHut("shy 1 ((((d=1))))|((((d=1))))");
            isHut("shy 1 (((!d=1&!d=1|!d=1)))");
            isHut("shy 1 !!(d=1)&((!d=1)|(d=1))");
        });
        Check.sentence("terms: the count begins anew in each clause", () ->
            isHut("shy 1 ((((d=1))));lean 1 !!!!d=1;shy 1 (!(!d=1))"));
        Check.sentence("terms: a ! behind one that is closed counts those that are open", () -> {
            fault("shy 1 (((!d=1&!!d=1)))", 15);
            fault("shy 1 ((((d=1)|(!d=1))))", 16);
        });
    }

    // ---- the fault

    private static void faults() {
        Check.sentence("8: the fault is the first byte with which none begins so", () -> {
            for (String word : new String[] {"lean 1 d=1", "shy 1 d=1", "short 1", "more 1"}) {
                for (int i = 0; i < word.length(); i++) {
                    fault(word.substring(0, i) + "~" + word.substring(i + 1), i);
                }
            }
        });
        Check.sentence("8: the first byte of all", () -> {
            for (char sign = 0; sign < 128; sign++) {
                fault("" + sign, "lsm".indexOf(sign) >= 0 ? 1 : 0);
            }
        });
        Check.sentence("8: words that begin alike", () -> {
            fault("sh", 2);
            fault("shx", 2);
            fault("shrt 1", 2);
            fault("sh 1", 2);
            fault("shor 1", 4);
            fault("lea 1 d=1", 3);
            fault("mor 1", 3);
            fault("so", 1);
            fault("mean 1", 1);
            fault("lore 1", 1);
            fault("shorty 1", 5);
            fault("Lean 1 d=1", 0);
        });
        Check.sentence("8: the end of the text, if it ends too early", () ->
            early("lean 12 !(d=1|k<22)&n>3", "lean 12 !(d=1|k<22)"));
        Check.sentence("8: the end, in the second clause", () -> early("more 2;short 3", "more 2"));
        Check.sentence("8: the end of a text of 100 bytes", () -> {
            fault("lean 1 " + times("d=1|", 23) + "!", 100);
            fault("lean 10 d=1" + times("|d=1", 22) + "|", 100);
        });
        Check.sentence("8: the last of 100 bytes", () -> fault("lean 10 d=1" + times("|d=1", 22) + ")", 99));
        Check.sentence("terms: a hut of 100 bytes", () -> isHut("lean 10 d=1" + times("|d=1", 22) + "0"));
    }

    /** Of all that a hut begins with, its end is the fault, but for the one that is a hut itself. */
    private static void early(String hut, String other) {
        for (int n = 1; n < hut.length(); n++) {
            String text = hut.substring(0, n);
            Check.due("hut " + text, Straws.hut(text), text.equals(other) ? 0 : -10 - n);
        }
    }

    // ---- the straws of a whole fist

    private static void fist(String text, int drawers, int shorts, int longs) {
        ShortStraw straw = Straws.with(text, Straws.blind(drawers));
        Check.due("short ones of " + text, straw.told(1), shorts);
        Check.due("long ones of " + text, straw.told(2), longs);
    }

    private static void straws() {
        Check.sentence("terms: 1 short one without a short", () -> {
            Check.due("no hut", Straws.blind(4).told(1), 1);
            fist("more 2", 4, 1, 5);
        });
        Check.sentence("terms: 1 short one if less", () -> {
            fist("short 0", 4, 1, 3);
            fist("short 00", 4, 1, 3);
        });
        Check.sentence("terms: 3 short ones if more", () -> {
            fist("short 4", 6, 3, 3);
            fist("short 99", 6, 3, 3);
        });
        Check.sentence("terms: 1 to 3 short ones", () -> {
            fist("short 1", 6, 1, 5);
            fist("short 2", 6, 2, 4);
            fist("short 3", 6, 3, 3);
        });
        Check.sentence("terms: the last short", () -> {
            fist("short 3;short 2", 6, 2, 4);
            fist("short 9;short 0", 6, 1, 5);
            fist("short 0;more 1;short 9;lean 1 d=0", 6, 3, 4);
        });
        Check.sentence("terms: none more without a more", () -> fist("short 1", 4, 1, 3));
        Check.sentence("terms: 9 more if more", () -> {
            fist("more 10", 1, 1, 9);
            fist("more 99", 1, 1, 9);
        });
        Check.sentence("terms: 0 to 9 more", () -> {
            fist("more 0", 1, 1, 0);
            fist("more 9", 1, 1, 9);
        });
        Check.sentence("terms: the last more", () -> {
            fist("more 9;more 0", 2, 1, 1);
            fist("more 2;short 2;more 3;lean 1 d=0", 2, 2, 3);
        });
        Check.sentence("terms: 0 long ones at least", () -> {
            fist("short 3", 0, 3, 0);
            fist("short 3", 1, 3, 0);
            fist("short 3", 2, 3, 0);
            fist("short 3", 3, 3, 0);
            fist("short 3", 4, 3, 1);
            Check.due("nobody, no hut", new ShortStraw().told(2), 0);
        });
        Check.sentence("terms: 0 at least by all of it together", () -> {
            fist("short 3;more 1", 1, 3, 0);
            fist("short 3;more 2", 1, 3, 0);
            fist("short 3;more 3", 1, 3, 1);
            fist("short 3;more 2", 0, 3, 0);
            fist("short 1;more 1", 0, 1, 0);
            fist("short 1;more 2", 0, 1, 1);
        });
    }
}
