/** All that can be asked of an object, as a text; what only a change can ask comes last. */
final class Snapshot {
    private final ShortStraw straw;
    private final StringBuilder text = new StringBuilder();

    private Snapshot(ShortStraw straw) {
        this.straw = straw;
    }

    /** Uses the object up: a hut of its text and an undo are among what is asked. */
    static String of(ShortStraw straw) {
        Snapshot one = new Snapshot(straw);
        one.asked();
        one.acted();
        one.tapes();
        one.rows();
        one.say("hut", straw.hut());
        one.fist();
        one.say("undo", straw.undo());
        one.asked();
        one.rows();
        return one.text.toString();
    }

    private void say(String call, long answer) {
        text.append(call).append(' ').append(answer).append('\n');
    }

    private void asked() {
        for (int d = 0; d < straw.count(0); d++) {
            for (int what = 0; what < 6; what++) {
                say("of " + d + " " + what, straw.of(d, what));
            }
        }
        fist();
        say("even", straw.even());
        say("leans", straw.leans());
        say("fits", straw.fits());
        say("looked", straw.looked());
    }

    private void fist() {
        for (int what = 0; what < 4; what++) {
            say("told " + what, straw.told(what));
        }
        for (int what = 0; what < 5; what++) {
            say("count " + what, straw.count(what));
        }
    }

    private void acted() {
        say("ran", straw.count(5));
        for (int i = 0; i < straw.count(5); i++) {
            say("trace " + i, straw.trace(i));
        }
    }

    private void tapes() {
        for (int tape = 0; tape < 6; tape++) {
            say("nothing in " + tape, straw.shift(tape, 0, tape, 0, 0));
            for (int i = 0; i < 4; i++) {
                say("read " + tape + " " + i, straw.read(tape, i));
            }
        }
    }

    private void rows() {
        for (int d = 0; d < straw.count(0); d++) {
            for (int part = 0; straw.of(d, 0) == 6 && part < 4; part++) {
                int was = straw.row(d, part, 0);
                straw.row(d, part, Math.max(0, was));
                say("row " + d + " " + part, was);
            }
        }
    }
}
