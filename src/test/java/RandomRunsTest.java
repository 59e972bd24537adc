import java.util.Random;

/** Runs of 512 calls, the same each time, in which the program and the model must answer alike. */
public final class RandomRunsTest {
    private static final int RUNS = 400, TEXTS = 4000, CALLS = 512;
    private static final String[] FINE = {
        "short 2", "short 3;more 9", "more 1;short 2", "lean 5 d<2;shy 4 n>0;short 2", "shy 99 p=0",
        "lean 40 s=2&l>1|p>3;short 3", "lean 9 k=1|k=4;shy 7 !(d=0|d=3);more 2", "lean 99 n>4;lean 99 n<5",
        "shy 12 l<3;lean 30 s>1;short 3", "lean 7 ((((d>1))))&!!p<4;more 12;short 0",
    };

    private final Random random;
    private final ShortStraw straw = new ShortStraw();
    private final Model model = new Model();

    private RandomRunsTest(long seed) {
        random = new Random(seed);
    }

    public static void main(String[] args) {
        for (int run = 0; run < RUNS; run++) {
            new RandomRunsTest(run).run(run);
        }
        for (int i = 0; i < TEXTS; i++) {
            new RandomRunsTest(-1 - i).text();
        }
        Check.end("RandomRunsTest");
    }

    private void run(int run) {
        int calls = 0;
        int drawers = random.nextInt(8);
        for (int d = 0; d < drawers; d++) {
            int kind = random.nextInt(7);
            int v = random.nextInt(10);
            alike("run " + run + " drawer", straw.drawer(kind, v), model.drawer(kind, v));
            calls++;
        }
        while (calls < CALLS) {
            calls += step("run " + run + " call " + calls + " ");
        }
    }

    private static void alike(String call, long got, long want) {
        Check.due(call, got, want);
    }

    /** Mostly a number that there is, now and then one beside, seldom one far off. */
    private int near(int low, int high) {
        int sort = random.nextInt(40);
        if (sort == 0) {
            return low - 1;
        }
        if (sort == 1) {
            return high + 1;
        }
        if (sort == 2) {
            int[] far = {Integer.MIN_VALUE, Integer.MAX_VALUE, -1000000, 1000000, -1, 0, 100, -7};
            return far[random.nextInt(far.length)];
        }
        return low + random.nextInt(high - low + 1);
    }

    private int feed(String text, String call) {
        for (int i = 0; i < text.length(); i++) {
            alike(call + "feed", straw.feed(text.charAt(i)), model.feed(text.charAt(i)));
        }
        return text.length();
    }

    private int step(String call) {
        int sort = random.nextInt(38);
        if (sort < 9) {
            return told(sort, call);
        }
        if (sort < 18) {
            asked(sort, call);
        } else if (sort < 27) {
            seen(sort, call);
        } else {
            last(sort, call);
        }
        return 1;
    }

    private int told(int sort, String call) {
        int d = near(0, 5);
        int what = near(0, 5);
        int n = near(0, 9);
        switch (sort) {
            case 0:
                if (random.nextInt(3) > 0) {
                    break;
                }
                alike(call + "drawer", straw.drawer(what, n), model.drawer(what, n));
                break;
            case 1: alike(call + "of", straw.of(d, what), model.of(d, what)); break;
            case 2:
                int sent = random.nextInt(4) > 0 ? n : near(0, 999);
                alike(call + "sent", straw.sent(d, sent), model.sent(d, sent));
                break;
            case 3:
                int part = near(0, 3);
                alike(call + "row", straw.row(d, part, n), model.row(d, part, n));
                break;
            case 4: alike(call + "place", straw.place(d, what), model.place(d, what)); break;
            case 5:
                int sign = near(0, 127);
                alike(call + "feed", straw.feed(sign), model.feed(sign));
                break;
            case 6: return 1 + hut(call);
            case 7:
                int asked = near(0, 16);
                alike(call + "told", straw.told(asked), model.told(asked));
                break;
            default: return draws(call);
        }
        return 1;
    }

    private int hut(String call) {
        int fed = 0;
        if (random.nextInt(3) > 0) {
            fed = feed(random.nextInt(3) > 0 ? FINE[random.nextInt(FINE.length)] : anyText(40), call);
        }
        alike(call + "hut", straw.hut(), model.hut());
        return fed;
    }

    private int draws(String call) {
        int n = random.nextInt(12);
        for (int i = 0; i < n; i++) {
            int d = random.nextInt(3) == 0 ? near(0, 999999) : random.nextInt(1000000);
            alike(call + "draw", straw.draw(d), model.draw(d));
        }
        return n;
    }

    private void asked(int sort, String call) {
        int d = near(0, 5);
        int part = near(0, 1);
        switch (sort) {
            case 9: alike(call + "likely", straw.likely(d), model.likely(d)); break;
            case 10: alike(call + "even", straw.even(), model.even()); break;
            case 11:
                // the model takes its time for five
                if (random.nextInt(6) == 0) {
                    int k = near(-1, 4);
                    alike(call + "best", straw.best(k), model.best(k));
                }
                break;
            case 12: alike(call + "safest", straw.safest(d, part), model.safest(d, part)); break;
            case 13:
                int q = near(0, random.nextBoolean() ? 1000000 : 300000);
                alike(call + "enough", straw.enough(d, q), model.enough(d, q));
                break;
            case 14: alike(call + "leans", straw.leans(), model.leans()); break;
            case 15:
                int p = random.nextInt(4) == 0 ? 50 : near(1, 99);
                int m = near(1, 16);
                alike(call + "coin", straw.coin(p, m, part), model.coin(p, m, part));
                break;
            case 16:
                int f = near(2, 20);
                int chosen = near(1, 16);
                alike(call + "dice", straw.dice(f, chosen, part), model.dice(f, chosen, part));
                break;
            default: alike(call + "turn", straw.turn(), model.turn()); break;
        }
    }

    private void seen(int sort, String call) {
        int d = random.nextInt(5) == 0 ? -1 : near(0, 999999);
        int part = near(0, 1);
        switch (sort) {
            case 18: alike(call + "uneven", straw.uneven(), model.uneven()); break;
            case 19: alike(call + "most", straw.most(part), model.most(part)); break;
            case 20:
                boolean isShort = random.nextInt(3) == 0;
                alike(call + "see", straw.see(d, isShort), model.see(d, isShort));
                break;
            case 21: alike(call + "fits", straw.fits(), model.fits()); break;
            case 22:
                int who = near(0, 5);
                alike(call + "odds", straw.odds(who, part), model.odds(who, part));
                break;
            case 23: alike(call + "mean", straw.mean(part), model.mean(part)); break;
            case 24: alike(call + "book", straw.book(d), model.book(d)); break;
            case 25: alike(call + "looked", straw.looked(), model.looked()); break;
            default:
                int tape = near(0, 5);
                int i = near(0, 7);
                alike(call + "judge", straw.judge(tape, i), model.judge(tape, i));
                break;
        }
    }

    private void last(int sort, String call) {
        int d = near(0, 5);
        int i = near(0, 12);
        switch (sort) {
            case 27:
                if (random.nextBoolean()) {
                    alike(call + "image", straw.image(), model.image());
                }
                break;
            case 28:
                if (random.nextInt(3) == 0) {
                    alike(call + "undo", straw.undo(), model.undo());
                }
                break;
            case 29:
                int act = near(0, 2);
                int x = random.nextBoolean() ? random.nextInt() : near(-9, 9);
                alike(call + "act", straw.act(d, act, x), model.act(d, act, x));
                break;
            case 30: alike(call + "trace", straw.trace(i), model.trace(i)); break;
            case 31:
                int k = near(0, 6);
                alike(call + "taken", straw.taken(d, k), model.taken(d, k));
                break;
            case 32:
                int what = near(0, 5);
                alike(call + "count", straw.count(what), model.count(what));
                break;
            case 33:
                int kind = random.nextInt(3) == 0 ? 2 : near(-1, 4);
                int n = random.nextInt(3) == 0 ? near(0, 60) : i;
                alike(call + "tape", straw.tape(d, kind, n), model.tape(d, kind, n));
                break;
            case 34:
            case 35:
                long v = random.nextBoolean() ? near(0, 5) : random.nextLong();
                alike(call + "item", straw.item(d, i, v), model.item(d, i, v));
                break;
            case 36: alike(call + "read", straw.read(d, i), model.read(d, i)); break;
            default:
                int to = random.nextBoolean() ? d : near(0, 5);
                int j = near(0, 12);
                int many = near(0, 6);
                alike(call + "shift", straw.shift(d, i, to, j, many), model.shift(d, i, to, j, many));
                break;
        }
    }

    // ---- texts

    /** A text by the grammar, mostly spoilt somewhere; its fault, and if it is a hut what comes of it. */
    private void text() {
        String text = anyText(100);
        for (int kind = 0; kind < 6; kind++) {
            straw.drawer(kind, 2 + kind);
            model.drawer(kind, 2 + kind);
            straw.sent(kind, 3 * kind);
            model.sent(kind, 3 * kind);
        }
        feed(text, text + " ");
        alike("hut " + text, straw.hut(), model.hut());
        for (int d = 0; d < 6; d++) {
            alike("pull by " + text, straw.of(d, 4), model.of(d, 4));
            alike("likely by " + text, straw.likely(d), model.likely(d));
        }
        alike("short ones by " + text, straw.told(1), model.told(1));
        alike("long ones by " + text, straw.told(2), model.told(2));
    }

    private String anyText(int most) {
        StringBuilder text = new StringBuilder();
        int clauses = 1 + (random.nextInt(4) == 0 ? random.nextInt(11) : random.nextInt(3));
        for (int i = 0; i < clauses; i++) {
            text.append(i > 0 ? ";" : "").append(anyClause(clauses > 4));
        }
        if (random.nextInt(2) == 0) {
            int at = random.nextInt(text.length());
            String signs = "lsmehyorta 0159dknp<=>|&!();x\0";
            switch (random.nextInt(3)) {
                case 0: text.setCharAt(at, signs.charAt(random.nextInt(signs.length()))); break;
                case 1: text.deleteCharAt(at); break;
                default: text.insert(at, signs.charAt(random.nextInt(signs.length()))); break;
            }
        }
        if (random.nextInt(8) == 0) {
            text.setLength(random.nextInt(text.length() + 1));
        }
        return text.substring(0, Math.min(most, text.length()));
    }

    private String anyClause(boolean isPlain) {
        int sort = random.nextInt(isPlain ? 2 : 6);
        String n = number();
        switch (sort) {
            case 0: return "short " + n;
            case 1: return "more " + n;
            case 2:
            case 3: return "lean " + n + " " + anyTruth(random.nextInt(6));
            default: return "shy " + n + " " + anyTruth(random.nextInt(6));
        }
    }

    private String number() {
        return random.nextInt(3) == 0 ? "" + random.nextInt(10) + random.nextInt(10) : "" + random.nextInt(10);
    }

    private String anyTruth(int depth) {
        if (depth == 0 || random.nextInt(5) == 0) {
            return "" + "dknslp".charAt(random.nextInt(6)) + "<=>".charAt(random.nextInt(3)) + number();
        }
        switch (random.nextInt(5)) {
            case 0: return "!" + anyTruth(depth - 1);
            case 1:
            case 2: return "(" + anyTruth(depth - 1) + ")";
            case 3: return anyTruth(depth / 2) + "&" + anyTruth(depth - 1);
            default: return anyTruth(depth / 2) + "|" + anyTruth(depth - 1);
        }
    }
}
