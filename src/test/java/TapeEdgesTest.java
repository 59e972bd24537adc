/** Promises 28 and 35 to 38, and the terms on tapes: each sentence that names an edge, by a test of its own. */
public final class TapeEdgesTest {
    private static final long NO = Long.MIN_VALUE;
    private static final int[] NO_TAPES = {-1, 6, Straws.LEAST, Straws.GREATEST};
    private static final int LEAST = Integer.MIN_VALUE, GREATEST = Integer.MAX_VALUE;

    public static void main(String[] args) {
        judge();
        judgeEnds();
        tape();
        item();
        wraps();
        read();
        shift();
        shiftPlaces();
        Check.end("TapeEdgesTest");
    }

    private static ShortStraw row(int sort, long... items) {
        return Straws.tape(new ShortStraw(), sort, items);
    }

    // ---- judge

    private static void judge() {
        Check.sentence("28: NONE: tape", () -> {
            for (int tape : NO_TAPES) {
                Check.due("tape " + tape, Straws.sent(1).judge(tape, 0), -1);
            }
        });
        Check.sentence("28: CAST: it is no row of ints", () -> {
            for (int sort : new int[] {0, 1, 3, 4}) {
                Check.due("sort " + sort, Straws.tape(Straws.sent(1), sort, 1).judge(0, 0), -12);
                Check.due("of none, sort " + sort, Straws.tape(Straws.sent(1), sort).judge(0, 0), -12);
            }
        });
        Check.sentence("28: -5: none is otherwise", () ->
            Check.due("all six", Straws.tape(Straws.sent(1, 2, 3, 4, 5, 999), 2, 1, 2, 3, 4, 5, 999).judge(0, 0), -5));
        Check.sentence("28: -5: none to look at", () -> {
            Check.due("a row", Straws.tape(new ShortStraw(), 2, 1).judge(0, 0), -5);
            Check.due("behind a row", Straws.tape(new ShortStraw(), 2, 1).judge(0, 1), -5);
            Check.due("a place below 0", Straws.tape(new ShortStraw(), 2, 1).judge(0, -1), -5);
            Check.due("no row", new ShortStraw().judge(0, 0), -5);
        });
        Check.sentence("28: the first that is otherwise", () -> {
            Check.due("the first of all", Straws.tape(Straws.sent(1, 2), 2, 2, 1).judge(0, 0), 0);
            Check.due("the last of all", Straws.tape(Straws.sent(1, 2), 2, 1, 1).judge(0, 0), 1);
        });
        Check.sentence("28: otherwise is also what no sent can be", () ->
            Check.due("below 0", Straws.tape(Straws.sent(0), 2, -1).judge(0, 0), 0));
    }

    private static void judgeEnds() {
        Check.sentence("28: 100 and more: the row ends ahead of that", () -> {
            ShortStraw straw = Straws.tape(Straws.sent(1, 1, 1), 2, 1, 1, 1);
            Check.due("none is left out", straw.judge(0, 0), -5);
            Check.due("two looked at", straw.judge(0, 1), 102);
            Check.due("one looked at", straw.judge(0, 2), 101);
            Check.due("the end itself", straw.judge(0, 3), 100);
            Check.due("far behind", straw.judge(0, 60), 100);
        });
        Check.sentence("28: otherwise ahead of the row's end", () ->
            Check.due("the second", Straws.tape(Straws.sent(1, 1, 1), 2, 1, 2).judge(0, 0), 1));
        Check.sentence("28: 100: a row of none", () ->
            Check.due("judge", Straws.tape(Straws.sent(0), 2).judge(0, 0), 100));
        Check.sentence("28: 100: the place is below 0", () -> {
            Check.due("-1", Straws.tape(Straws.sent(0, 0), 2, 0, 0).judge(0, -1), 100);
            Check.due("least", Straws.tape(Straws.sent(0, 0), 2, 0, 0).judge(0, LEAST), 100);
        });
        Check.sentence("28: 100: the greatest place", () ->
            Check.due("judge", Straws.tape(Straws.sent(0, 0), 2, 0, 0).judge(0, GREATEST), 100));
        Check.sentence("28: 100: the tape holds nothing", () -> {
            Check.due("at first", Straws.sent(0).judge(0, 0), 100);
            ShortStraw straw = Straws.tape(Straws.sent(0), 1, 5);
            straw.tape(0, -1, 0);
            Check.due("again", straw.judge(0, 0), 100);
        });
        Check.sentence("28: the place of 60", () -> {
            ShortStraw straw = Straws.sent(7);
            straw.tape(5, 2, 60);
            straw.item(5, 59, 7);
            Check.due("the last", straw.judge(5, 59), -5);
            Check.due("behind it", straw.judge(5, 60), 100);
        });
    }

    // ---- tape

    private static void tape() {
        Check.sentence("35: NONE: tape", () -> {
            for (int tape : NO_TAPES) {
                Check.due("tape " + tape, new ShortStraw().tape(tape, 0, 1), -1);
            }
        });
        Check.sentence("35: BAD: sort", () -> {
            for (int sort : new int[] {-2, 5, LEAST, GREATEST}) {
                Check.due("sort " + sort, new ShortStraw().tape(0, sort, 1), -2);
            }
        });
        Check.sentence("35: BAD: n above 60", () -> {
            Check.due("61", new ShortStraw().tape(0, 0, 61), -2);
            Check.due("greatest", new ShortStraw().tape(0, 0, GREATEST), -2);
        });
        Check.sentence("35: SIZE: n below 0", () -> {
            Check.due("-1", new ShortStraw().tape(0, 0, -1), -14);
            Check.due("least", new ShortStraw().tape(0, 0, LEAST), -14);
        });
        Check.sentence("35: n 0", () -> {
            Check.due("tape", new ShortStraw().tape(0, 0, 0), 1);
            Check.due("no place, but a row", row(0).item(0, 0, 1), -13);
        });
        Check.sentence("35: n 60", () -> {
            ShortStraw straw = new ShortStraw();
            Check.due("tape", straw.tape(5, 4, 60), 1);
            Check.due("the last", straw.item(5, 59, 1), 1);
            Check.due("behind it", straw.item(5, 60, 1), -13);
        });
        Check.sentence("35: sort -1: n does not matter", () -> {
            for (int n : new int[] {-1, 61, 0, LEAST, GREATEST}) {
                ShortStraw straw = row(3, 1);
                Check.due("n " + n, straw.tape(0, -1, n), 1);
                Check.due("nothing is there", straw.item(0, 0, 1), -11);
            }
        });
        Check.sentence("35: all 0, also where others were", () -> {
            ShortStraw straw = row(3, 1, 2, 3);
            straw.tape(0, 0, 3);
            for (int i = 0; i < 3; i++) {
                Check.due("item " + i, straw.read(0, i), 0);
            }
        });
        Check.sentence("terms: tapes hold nothing at first", () -> {
            for (int tape = 0; tape < 6; tape++) {
                Check.due("tape " + tape, new ShortStraw().item(tape, 0, 1), -11);
            }
        });
    }

    // ---- item, read

    private static void item() {
        Check.sentence("36: NONE", () -> {
            for (int tape : NO_TAPES) {
                Check.due("tape " + tape, row(0, 1).item(tape, 0, 1), -1);
            }
        });
        Check.sentence("36: NOTHING", () -> Check.due("item", row(0, 1).item(1, 0, 1), -11));
        Check.sentence("36: PLACE: below 0", () -> {
            Check.due("-1", row(0, 1, 2).item(0, -1, 1), -13);
            Check.due("least", row(0, 1, 2).item(0, LEAST, 1), -13);
        });
        Check.sentence("36: PLACE: behind the last", () -> {
            Check.due("2 of 2", row(0, 1, 2).item(0, 2, 1), -13);
            Check.due("greatest", row(0, 1, 2).item(0, GREATEST, 1), -13);
        });
        Check.sentence("36: the first and the last", () -> {
            Check.due("first", row(0, 1, 2).item(0, 0, 1), 1);
            Check.due("last", row(0, 1, 2).item(0, 1, 1), 1);
        });
    }

    private static void wrap(int sort, long v, long want) {
        Check.due("item " + v, row(sort, v).read(0, 0), want);
    }

    private static void wraps() {
        Check.sentence("36: the lowest bits of a byte", () -> {
            wrap(0, 127, 127);
            wrap(0, 128, -128);
            wrap(0, -128, -128);
            wrap(0, -129, 127);
            wrap(0, 256, 0);
            wrap(0, Long.MAX_VALUE, -1);
        });
        Check.sentence("36: the lowest bits of a short", () -> {
            wrap(1, 32767, 32767);
            wrap(1, 32768, -32768);
            wrap(1, -32769, 32767);
            wrap(1, 65536, 0);
            wrap(1, Long.MIN_VALUE, 0);
        });
        Check.sentence("36: the lowest bits of an int", () -> {
            wrap(2, GREATEST, GREATEST);
            wrap(2, GREATEST + 1L, LEAST);
            wrap(2, LEAST - 1L, GREATEST);
            wrap(2, 1L << 32, 0);
            wrap(2, Long.MAX_VALUE, -1);
        });
        Check.sentence("36: all bits of a long", () -> {
            wrap(3, Long.MAX_VALUE, Long.MAX_VALUE);
            wrap(3, Long.MIN_VALUE, Long.MIN_VALUE);
            wrap(3, Long.MIN_VALUE + 1, Long.MIN_VALUE + 1);
        });
        Check.sentence("36: booleans: whether v is not 0", () -> {
            wrap(4, 0, 0);
            wrap(4, -1, 1);
            wrap(4, 2, 1);
            wrap(4, 1L << 32, 1);
            wrap(4, Long.MIN_VALUE, 1);
        });
    }

    private static void read() {
        Check.sentence("37: NO: no such tape", () -> {
            for (int tape : NO_TAPES) {
                Check.due("tape " + tape, row(0, 1).read(tape, 0), NO);
            }
        });
        Check.sentence("37: NO: nothing there", () -> {
            Check.due("at first", new ShortStraw().read(0, 0), NO);
            ShortStraw straw = row(0, 1);
            straw.tape(0, -1, 1);
            Check.due("again", straw.read(0, 0), NO);
        });
        Check.sentence("37: NO: no such place", () -> {
            for (int i : new int[] {-1, 2, 60, LEAST, GREATEST}) {
                Check.due("place " + i, row(0, 1, 2).read(0, i), NO);
            }
            Check.due("of none", row(0).read(0, 0), NO);
            Check.due("the last", row(0, 1, 2).read(0, 1), 2);
        });
    }

    // ---- shift

    private static void shift() {
        Check.sentence("38: NONE: tapes", () -> {
            for (int tape : NO_TAPES) {
                Check.due("from " + tape, row(0, 1).shift(tape, 0, 0, 0, 1), -1);
                Check.due("to " + tape, row(0, 1).shift(0, 0, tape, 0, 1), -1);
            }
        });
        Check.sentence("38: NOTHING", () -> {
            Check.due("from", row(0, 1).shift(1, 0, 0, 0, 1), -11);
            Check.due("to", row(0, 1).shift(0, 0, 1, 0, 1), -11);
            Check.due("both", row(0, 1).shift(1, 0, 1, 0, 0), -11);
        });
        Check.sentence("38: CAST: of unlike sorts", () -> {
            for (int sort = 0; sort < 5; sort++) {
                for (int other = 0; other < 5; other++) {
                    ShortStraw straw = row(sort, 1);
                    straw.tape(1, other, 1);
                    Check.due(sort + " to " + other, straw.shift(0, 0, 1, 0, 1), sort == other ? 1 : -12);
                }
            }
        });
        Check.sentence("38: to the same, as they all were before, upward", () -> {
            ShortStraw straw = row(1, 1, 2, 3, 4);
            Check.due("shift", straw.shift(0, 0, 0, 1, 3), 3);
            items(straw, 0, 1, 1, 2, 3);
        });
        Check.sentence("38: to the same, as they all were before, downward", () -> {
            ShortStraw straw = row(1, 1, 2, 3, 4);
            Check.due("shift", straw.shift(0, 1, 0, 0, 3), 3);
            items(straw, 0, 2, 3, 4, 4);
        });
        Check.sentence("38: to the same place", () -> {
            ShortStraw straw = row(1, 1, 2);
            Check.due("shift", straw.shift(0, 0, 0, 0, 2), 2);
            items(straw, 0, 1, 2);
        });
    }

    private static void items(ShortStraw straw, int tape, long... want) {
        for (int i = 0; i < want.length; i++) {
            Check.due("item " + i, straw.read(tape, i), want[i]);
        }
    }

    /** From a row of four to a row of three. */
    private static int shifted(int i, int j, int n) {
        ShortStraw straw = row(2, 1, 2, 3, 4);
        straw.tape(1, 2, 3);
        return straw.shift(0, i, 1, j, n);
    }

    private static void shiftPlaces() {
        Check.sentence("38: PLACE: n below 0", () -> {
            Check.due("-1", shifted(1, 1, -1), -13);
            Check.due("least", shifted(1, 1, LEAST), -13);
        });
        Check.sentence("38: PLACE: i below 0", () -> {
            Check.due("-1", shifted(-1, 0, 1), -13);
            Check.due("least", shifted(LEAST, 0, 1), -13);
            Check.due("of none", shifted(-1, 0, 0), -13);
        });
        Check.sentence("38: PLACE: j below 0", () -> {
            Check.due("-1", shifted(0, -1, 1), -13);
            Check.due("least", shifted(0, LEAST, 1), -13);
            Check.due("of none", shifted(0, -1, 0), -13);
        });
        Check.sentence("38: PLACE: beyond the end of the one", () -> {
            Check.due("one too many", shifted(2, 0, 3), -13);
            Check.due("behind it", shifted(5, 0, 0), -13);
            Check.due("greatest i", shifted(GREATEST, 0, 1), -13);
        });
        Check.sentence("38: PLACE: beyond the end of the other", () -> {
            Check.due("one too many", shifted(0, 1, 3), -13);
            Check.due("behind it", shifted(0, 4, 0), -13);
            Check.due("greatest j", shifted(0, GREATEST, 1), -13);
        });
        Check.sentence("38: PLACE: i and n that wrap together", () -> {
            Check.due("greatest n", shifted(1, 1, GREATEST), -13);
            Check.due("both greatest", shifted(GREATEST, GREATEST, GREATEST), -13);
        });
        Check.sentence("38: just to both ends", () -> Check.due("shift", shifted(1, 0, 3), 3));
        Check.sentence("38: n 0, at both ends too", () -> {
            Check.due("at the start", shifted(0, 0, 0), 0);
            Check.due("at the ends", shifted(4, 3, 0), 0);
        });
    }
}
