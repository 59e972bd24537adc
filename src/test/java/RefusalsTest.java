import java.util.function.Supplier;
import java.util.function.ToLongFunction;

/** "What is answered so changes nothing; what is asked changes nothing", and which of several refusals is first. */
public final class RefusalsTest {
    private static final long NO = Long.MIN_VALUE;

    public static void main(String[] args) {
        refusedOfDrawers();
        refusedOfDraws();
        refusedOfTapes();
        full();
        nobody();
        askedOfDrawers();
        askedOfWinters();
        firstOfDrawers();
        firstOfAsked();
        firstOfTapes();
        Check.end("RefusalsTest");
    }

    // ---- the objects that are asked

    /** In the midst of a night, with something of all that an object can hold. */
    private static ShortStraw some() {
        ShortStraw straw = Straws.kinds(3, 6, 0, 4, 5);
        Straws.with("lean 5 d=1|n>0;short 2;more 1", straw);
        straw.place(3, 1);
        straw.row(0, 2, 8);
        straw.sent(1, 4);
        Straws.tape(straw, 2, 4, 5, 6);
        straw.tape(1, 0, 2);
        straw.tape(2, 2, 4);
        straw.image();
        straw.draw(0);
        straw.draw(999999);
        straw.row(0, 1, 9);
        straw.see(400000, true);
        straw.see(999999, false);
        Straws.booked(straw, 999999, 0);
        Straws.feed("more 2", straw);
        straw.act(2, 2, 50);
        return straw;
    }

    private static ShortStraw sixOfAll() {
        ShortStraw straw = Straws.kinds(1, 0, 1, 2, 3, 4, 6);
        for (int i = 0; i < 6; i++) {
            Straws.with("short 2;more " + i, straw);
            straw.see(999999, false);
        }
        Straws.booked(straw, 999999, 999999, 999999, 999999, 999999, 999999, 999999, 1);
        straw.image();
        straw.draw(999999);
        for (int i = 0; i < 100; i++) {
            straw.feed('x');
        }
        return straw;
    }

    // ---- what changes nothing

    private static void alike(String words, Supplier<ShortStraw> made, ToLongFunction<ShortStraw> call, long want) {
        Check.sentence("changes nothing: " + words, () -> {
            ShortStraw straw = made.get();
            Check.due("the call", call.applyAsLong(straw), want);
            unchanged(made.get(), straw);
        });
    }

    private static void unchanged(ShortStraw before, ShortStraw then) {
        String was = Snapshot.of(before);
        String is = Snapshot.of(then);
        Check.due("changed at " + firstOther(was, is), is.equals(was) ? 0 : 1, 0);
    }

    private static String firstOther(String before, String then) {
        String[] all = before.split("\n");
        String[] others = then.split("\n");
        int at = 0;
        while (at < all.length && at < others.length && all[at].equals(others[at])) {
            at++;
        }
        return at < others.length ? others[at] : "the end";
    }

    private static void refused(String words, ToLongFunction<ShortStraw> call, long want) {
        alike(words, RefusalsTest::some, call, want);
    }

    /** What it answers is looked at by the tests of its promise. */
    private static void asked(String words, ToLongFunction<ShortStraw> call) {
        Check.sentence("changes nothing: " + words, () -> {
            ShortStraw straw = some();
            call.applyAsLong(straw);
            unchanged(some(), straw);
        });
    }

    private static void refusedOfDrawers() {
        refused("2 NONE", x -> x.drawer(7, 0), -1);
        refused("2 BAD", x -> x.drawer(0, 10), -2);
        refused("3 NONE", x -> x.of(4, 0), -1);
        refused("4 NONE", x -> x.sent(4, 7), -1);
        refused("4 BAD", x -> x.sent(0, 1000), -2);
        refused("5 NONE: drawer", x -> x.row(4, 1, 1), -1);
        refused("5 NONE: part", x -> x.row(0, 4, 1), -1);
        refused("5 BAD", x -> x.row(0, 1, 10), -2);
        refused("5 STATE", x -> x.row(1, 1, 1), -3);
        refused("6 NONE: drawer", x -> x.place(4, 0), -1);
        refused("6 NONE: k", x -> x.place(0, 4), -1);
        refused("7 BAD", x -> x.feed(128), -2);
        refused("9 NONE", x -> x.told(14), -1);
    }

    private static void refusedOfDraws() {
        refused("10 BAD: below", x -> x.draw(-1), -2);
        refused("10 BAD: above", x -> x.draw(1000000), -2);
        refused("11 NONE", x -> x.likely(4), -1);
        refused("13 NONE", x -> x.best(5), -1);
        refused("14 NONE", x -> x.safest(0, 2), -1);
        refused("15 NONE", x -> x.enough(4, 0), -1);
        refused("15 BAD", x -> x.enough(0, 1000001), -2);
        refused("17 NO", x -> x.coin(100, 2, 0), NO);
        refused("18 NO", x -> x.dice(21, 2, 0), NO);
        refused("21 NONE", x -> x.most(2), -1);
        refused("22 BAD", x -> x.see(-2, true), -2);
        refused("24 NO", x -> x.odds(4, 0), NO);
        refused("25 NO", x -> x.mean(2), NO);
        refused("26 BAD", x -> x.book(-2), -2);
    }

    private static void refusedOfTapes() {
        refused("28 NONE", x -> x.judge(6, 0), -1);
        refused("28 CAST", x -> x.judge(1, 0), -12);
        refused("32 NONE", x -> x.trace(20), -1);
        refused("33 BAD", x -> x.taken(0, 7), -2);
        refused("33 NOTHING", x -> x.taken(4, 0), -11);
        refused("33 CAST", x -> x.taken(0, 1), -12);
        refused("34 BAD", x -> x.count(6), -2);
        refused("35 NONE", x -> x.tape(6, 0, 1), -1);
        refused("35 BAD: sort", x -> x.tape(0, 5, 1), -2);
        refused("35 BAD: n", x -> x.tape(0, 0, 61), -2);
        refused("35 SIZE", x -> x.tape(0, 0, -1), -14);
        refused("36 NONE", x -> x.item(6, 0, 9), -1);
        refused("36 NOTHING", x -> x.item(3, 0, 9), -11);
        refused("36 PLACE", x -> x.item(0, 3, 9), -13);
        refused("37 NO", x -> x.read(0, 3), NO);
        refused("38 NONE", x -> x.shift(0, 0, 6, 0, 1), -1);
        refused("38 NOTHING", x -> x.shift(0, 0, 3, 0, 1), -11);
        refused("38 CAST", x -> x.shift(0, 0, 1, 0, 1), -12);
        refused("38 PLACE: in the one", x -> x.shift(0, 1, 2, 0, 3), -13);
        refused("38 PLACE: in the other", x -> x.shift(0, 0, 2, 2, 3), -13);
    }

    private static void full() {
        alike("2 FULL", RefusalsTest::sixOfAll, x -> x.drawer(0, 0), -4);
        alike("7 FULL", RefusalsTest::sixOfAll, x -> x.feed('x'), -4);
        alike("8 FULL", RefusalsTest::sixOfAll, x -> x.hut(), -4);
        alike("13 -9", RefusalsTest::sixOfAll, x -> x.best(0), -9);
        alike("22 FULL", RefusalsTest::sixOfAll, x -> x.see(0, true), -4);
        alike("26 FULL", RefusalsTest::sixOfAll, x -> x.book(0), -4);
    }

    private static void nobody() {
        alike("10 STATE", ShortStraw::new, x -> x.draw(0), -3);
        alike("30 STATE", () -> Straws.blind(2), x -> x.undo(), -3);
        alike("27 -5", () -> Straws.booked(new ShortStraw(), 0), x -> x.looked(), -5);
    }

    private static void askedOfDrawers() {
        asked("3 pull", x -> x.of(3, 4));
        asked("3 chance", x -> x.of(3, 5));
        asked("9 told", x -> x.told(11));
        asked("11 likely", x -> x.likely(1));
        asked("12 even", x -> x.even());
        asked("13 best", x -> x.best(-1));
        asked("14 safest", x -> x.safest(3, 0));
        asked("15 enough", x -> x.enough(1, 300000));
        asked("16 leans", x -> x.leans());
    }

    private static void askedOfWinters() {
        asked("17 coin", x -> x.coin(50, 3, 0));
        asked("18 dice", x -> x.dice(6, 7, 0));
        asked("19 turn", x -> x.turn());
        asked("20 uneven", x -> x.uneven());
        asked("21 most", x -> x.most(1));
        asked("23 fits", x -> x.fits());
        asked("24 odds", x -> x.odds(0, 1));
        asked("25 mean", x -> x.mean(1));
        asked("27 looked", x -> x.looked());
        asked("28 judge", x -> x.judge(0, 0));
        asked("32 trace", x -> x.trace(0));
        asked("33 taken", x -> x.taken(2, 1));
        asked("34 count", x -> x.count(2));
        asked("37 read", x -> x.read(0, 0));
        asked("38 shift of none", x -> x.shift(0, 3, 2, 0, 0));
    }

    // ---- the first that a call's words name

    private static void first(String words, long got, long want) {
        Check.sentence("first: " + words, () -> Check.due("the call", got, want));
    }

    private static void firstOfDrawers() {
        first("2 NONE ahead of BAD", new ShortStraw().drawer(7, 10), -1);
        first("2 NONE ahead of FULL", Straws.blind(6).drawer(7, 0), -1);
        first("2 BAD ahead of FULL", Straws.blind(6).drawer(0, 10), -2);
        first("4 NONE ahead of BAD", new ShortStraw().sent(0, 1000), -1);
        first("5 NONE, drawer, ahead of BAD", Straws.kinds(0, 6).row(1, 0, 10), -1);
        first("5 NONE, part, ahead of BAD", Straws.kinds(0, 6).row(0, 4, 10), -1);
        first("5 NONE, part, ahead of STATE", Straws.kinds(0, 0).row(0, 4, 0), -1);
        first("5 BAD ahead of STATE", Straws.kinds(0, 0).row(0, 0, 10), -2);
        first("7 BAD ahead of FULL", sixOfAll().feed(128), -2);
        first("8 FULL ahead of a fault", sixOfAll().hut(), -4);
        first("10 BAD ahead of STATE", new ShortStraw().draw(-1), -2);
    }

    private static void firstOfAsked() {
        first("13 NONE ahead of -5", new ShortStraw().best(5), -1);
        first("13 NONE ahead of -9", Straws.blind(6).best(5), -1);
        first("15 NONE ahead of BAD", new ShortStraw().enough(0, -1), -1);
        first("21 NONE ahead of -5", new ShortStraw().most(2), -1);
        first("22 BAD ahead of FULL", sixOfAll().see(-2, true), -2);
        first("22 d -1 ahead of FULL", sixOfAll().see(-1, true), 0);
        first("26 BAD ahead of FULL", sixOfAll().book(-2), -2);
        first("26 d -1 ahead of FULL", sixOfAll().book(-1), 0);
        first("33 BAD ahead of NOTHING", new ShortStraw().taken(0, 7), -2);
    }

    private static void firstOfTapes() {
        first("28 NONE ahead of a place below 0", Straws.sent(1).judge(6, -1), -1);
        first("28 CAST ahead of a place below 0", Straws.tape(Straws.sent(1), 0, 1).judge(0, -1), -12);
        first("28 CAST ahead of none to look at", Straws.tape(new ShortStraw(), 0, 1).judge(0, 0), -12);
        first("35 NONE ahead of BAD", new ShortStraw().tape(6, 5, 61), -1);
        first("35 NONE ahead of SIZE", new ShortStraw().tape(6, 0, -1), -1);
        first("35 NONE ahead of sort -1", new ShortStraw().tape(6, -1, 0), -1);
        first("35 BAD ahead of SIZE", new ShortStraw().tape(0, 5, -1), -2);
        first("36 NONE ahead of PLACE", new ShortStraw().item(6, -1, 0), -1);
        first("36 NOTHING ahead of PLACE", new ShortStraw().item(0, -1, 0), -11);
        first("38 NONE ahead of NOTHING", new ShortStraw().shift(0, 0, 6, 0, 1), -1);
        first("38 NONE ahead of PLACE", some().shift(0, -1, 6, -1, -1), -1);
        first("38 NOTHING ahead of CAST and PLACE", some().shift(0, -1, 3, 0, 1), -11);
        first("38 CAST ahead of PLACE", some().shift(0, -1, 1, -1, -1), -12);
    }
}
