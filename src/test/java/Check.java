/** Counts and prints the answers that are not as due. */
final class Check {
    private static int wrong = 0;
    private static int looked = 0;
    private static String sentence = "";

    private Check() {
    }

    static void due(String call, long got, long want) {
        looked++;
        if (got != want) {
            wrong++;
            System.out.println(sentence + call + " answered " + got + ", due is " + want);
        }
    }

    /** A test of its own for one sentence of the document; one that looks at no answer fails. */
    static void sentence(String words, Runnable test) {
        sentence = "[" + words + "] ";
        int before = looked;
        test.run();
        if (looked == before) {
            due("answers looked at", 0, 1);
        }
        sentence = "";
    }

    /** Ends the test's own machine, as .ci/run wants it. */
    static void end(String name) {
        System.out.println(name + ": " + looked + " answers, " + wrong + " not as due");
        System.exit(wrong == 0 && looked > 0 ? 0 : 1);
    }

    static void feed(ShortStraw straw, String text) {
        for (int i = 0; i < text.length(); i++) {
            due("feed of " + text + " at " + i, straw.feed(text.charAt(i)), i + 1);
        }
    }

    /** A text that is a hut. */
    static void hut(ShortStraw straw, String text, int number) {
        feed(straw, text);
        due("hut " + text, straw.hut(), number);
    }

    /** A text that is none, by the fault at a place. */
    static void fault(ShortStraw straw, String text, int place) {
        feed(straw, text);
        due("fault of " + text, straw.hut(), -10 - place);
        due("text behind a fault", straw.count(4), 0);
    }
}
