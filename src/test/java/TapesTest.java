/** Promises 28 and 35 to 38: judging by a tape, tapes. */
public final class TapesTest {
    public static void main(String[] args) {
        judge();
        judgeRefusals();
        tape();
        items();
        itemRefusals();
        shift();
        shiftRefusals();
        Check.end("TapesTest");
    }

    private static ShortStraw filled(int sort, long... items) {
        ShortStraw straw = new ShortStraw();
        straw.tape(0, sort, items.length);
        for (int i = 0; i < items.length; i++) {
            straw.item(0, i, items[i]);
        }
        return straw;
    }

    private static void judge() {
        ShortStraw straw = filled(2, 9, 4, 5, 6, 4);
        Check.due("none to look at", straw.judge(0, 0), -5);
        Check.due("none to look at, no row", straw.judge(1, -7), -5);
        for (int d = 0; d < 3; d++) {
            straw.drawer(0, 0);
            straw.sent(d, 4 + d);
        }
        straw.place(2, 0);
        Check.due("all so", straw.judge(0, 1), -5);
        Check.due("the first is otherwise", straw.judge(0, 0), 0);
        straw.sent(2, 7);
        Check.due("the third is otherwise", straw.judge(0, 1), 2);
        Check.due("the row ends", straw.judge(0, 4), 101);
        Check.due("at the end", straw.judge(0, 5), 100);
        Check.due("beyond the end", straw.judge(0, 6), 100);
        Check.due("far beyond", straw.judge(0, Integer.MAX_VALUE), 100);
        Check.due("below", straw.judge(0, -1), 100);
        Check.due("least", straw.judge(0, Integer.MIN_VALUE), 100);
        straw.sent(0, 6);
        straw.sent(1, 4);
        Check.due("two were looked at", straw.judge(0, 3), 102);
        straw.sent(1, 3);
        Check.due("otherwise ahead of the end", straw.judge(0, 3), 1);
        Check.due("no row", straw.judge(1, 0), 100);
        straw.tape(2, 2, 0);
        Check.due("a row of none", straw.judge(2, 0), 100);
    }

    private static void judgeRefusals() {
        ShortStraw straw = new ShortStraw();
        Check.due("no tape", straw.judge(6, 0), ShortStraw.NONE);
        Check.due("no tape below", straw.judge(-1, 0), ShortStraw.NONE);
        for (int sort = 0; sort < 5; sort++) {
            straw.tape(0, sort, 3);
            Check.due("sort " + sort + ", nobody", straw.judge(0, 0), sort == 2 ? -5 : -12);
            Check.due("sort " + sort + ", below", straw.judge(0, -1), sort == 2 ? -5 : -12);
        }
    }

    private static void tape() {
        ShortStraw straw = new ShortStraw();
        Check.due("no tape", straw.tape(6, 9, -1), ShortStraw.NONE);
        Check.due("no tape below", straw.tape(-1, 9, -1), ShortStraw.NONE);
        Check.due("sort below", straw.tape(0, -2, -1), ShortStraw.BAD);
        Check.due("sort above", straw.tape(0, 5, -1), ShortStraw.BAD);
        Check.due("n above", straw.tape(0, 0, 61), ShortStraw.BAD);
        Check.due("n below", straw.tape(0, 0, -1), -14);
        Check.due("nothing came", straw.item(0, 0, 0), -11);
        for (int tape = 0; tape < 6; tape++) {
            Check.due("sixty", straw.tape(tape, tape % 5, 60), 1);
            Check.due("the last", straw.item(tape, 59, 1), 1);
            Check.due("all 0", straw.read(tape, 58), 0);
            Check.due("no more", straw.item(tape, 60, 1), -13);
        }
        Check.due("a refusal leaves it", straw.tape(3, 0, 99), ShortStraw.BAD);
        Check.due("it is left", straw.read(3, 59), 1);
        Check.due("a row of none", straw.tape(0, 0, 0), 1);
        Check.due("it has no place", straw.item(0, 0, 0), -13);
        Check.due("anew", straw.tape(1, 1, 60), 1);
        Check.due("all 0 again", straw.read(1, 59), 0);
        Check.due("nothing, n below", straw.tape(2, -1, -5), 1);
        Check.due("nothing, n above", straw.tape(3, -1, 1000), 1);
        Check.due("nothing is there", straw.item(2, 0, 0), -11);
        Check.due("nothing to read", straw.read(3, 0), ShortStraw.NO);
    }

    private static void items() {
        long[] values = {0, 1, -1, 127, 128, -128, 255, 32767, 32768, 65536, Integer.MAX_VALUE,
            Integer.MAX_VALUE + 1L, 1L << 32, Long.MAX_VALUE, Long.MIN_VALUE};
        for (long v : values) {
            Check.due("byte " + v, filled(0, v).read(0, 0), (byte) v);
            Check.due("short " + v, filled(1, v).read(0, 0), (short) v);
            Check.due("int " + v, filled(2, v).read(0, 0), (int) v);
            Check.due("long " + v, filled(3, v).read(0, 0), v);
            Check.due("boolean " + v, filled(4, v).read(0, 0), v == 0 ? 0 : 1);
        }
    }

    private static void itemRefusals() {
        ShortStraw straw = filled(3, 1, 2, 3);
        Check.due("no tape", straw.item(6, 0, 1), ShortStraw.NONE);
        Check.due("no tape below", straw.item(-1, 0, 1), ShortStraw.NONE);
        Check.due("nothing", straw.item(1, -1, 1), -11);
        Check.due("place below", straw.item(0, -1, 1), -13);
        Check.due("place above", straw.item(0, 3, 1), -13);
        Check.due("read no tape", straw.read(6, 0), ShortStraw.NO);
        Check.due("read no tape below", straw.read(-1, 0), ShortStraw.NO);
        Check.due("read nothing", straw.read(1, 0), ShortStraw.NO);
        Check.due("read below", straw.read(0, -1), ShortStraw.NO);
        Check.due("read above", straw.read(0, 3), ShortStraw.NO);
        Check.due("read", straw.read(0, 2), 3);
    }

    private static void row(ShortStraw straw, int tape, long... want) {
        for (int i = 0; i < want.length; i++) {
            Check.due("item " + i, straw.read(tape, i), want[i]);
        }
        Check.due("behind it", straw.read(tape, want.length), ShortStraw.NO);
    }

    private static void shift() {
        ShortStraw straw = filled(1, 1, 2, 3, 4, 5);
        Check.due("up", straw.shift(0, 0, 0, 1, 4), 4);
        row(straw, 0, 1, 1, 2, 3, 4);
        Check.due("down", straw.shift(0, 2, 0, 0, 3), 3);
        row(straw, 0, 2, 3, 4, 3, 4);
        straw.tape(5, 1, 3);
        Check.due("to another", straw.shift(0, 1, 5, 1, 2), 2);
        row(straw, 5, 0, 3, 4);
        row(straw, 0, 2, 3, 4, 3, 4);
        Check.due("none", straw.shift(0, 5, 5, 3, 0), 0);
        Check.due("all", straw.shift(0, 0, 0, 0, 5), 5);
        row(straw, 0, 2, 3, 4, 3, 4);
    }

    private static void shiftRefusals() {
        ShortStraw straw = filled(0, 1, 2, 3);
        straw.tape(1, 2, 3);
        straw.tape(2, 0, 2);
        Check.due("no tape", straw.shift(6, 0, 3, 0, 1), ShortStraw.NONE);
        Check.due("no other", straw.shift(3, 0, -1, 0, 1), ShortStraw.NONE);
        Check.due("nothing", straw.shift(3, -1, 1, 0, 1), -11);
        Check.due("nothing in the other", straw.shift(0, -1, 3, 0, 1), -11);
        Check.due("unlike", straw.shift(0, -1, 1, 0, 1), -12);
        Check.due("n below", straw.shift(0, 0, 2, 0, -1), -13);
        Check.due("i below", straw.shift(0, -1, 2, 0, 1), -13);
        Check.due("j below", straw.shift(0, 0, 2, -1, 1), -13);
        Check.due("beyond the end", straw.shift(0, 2, 2, 0, 2), -13);
        Check.due("beyond the other's end", straw.shift(0, 0, 2, 1, 2), -13);
        Check.due("none beyond the end", straw.shift(0, 4, 2, 0, 0), -13);
        Check.due("greatest i", straw.shift(0, Integer.MAX_VALUE, 2, 0, 1), -13);
        Check.due("greatest j", straw.shift(0, 0, 2, Integer.MAX_VALUE, 1), -13);
        Check.due("greatest n", straw.shift(0, 1, 2, 1, Integer.MAX_VALUE), -13);
        Check.due("least n", straw.shift(0, 1, 2, 1, Integer.MIN_VALUE), -13);
        row(straw, 2, 0, 0);
        row(straw, 0, 1, 2, 3);
    }
}
