/**
 * Holds answers against those that are due, and ends a test with exit code 1 if one differed. Answers
 * stand under the sentence of the document that asks for them, so that a failure tells which is broken.
 */
final class Due {
    private static String sentence = "";
    private static int sentences = 0;
    private static int asked = 0;
    private static int askedBefore = 0;
    private static int wrong = 0;

    private Due() {}

    /** The words of the document that the answers from here on are held against. */
    static void sentence(String words) {
        nothingIsLeftUnasked();
        sentence = words;
        sentences++;
    }

    static void is(String call, long got, long want) {
        asked++;
        if (got != want) {
            wrong++;
            System.out.println("\"" + sentence + "\": " + call + " answered " + got + ", due is " + want);
        }
    }

    static void yes(String call, boolean got) {
        is(call, got ? 1 : 0, 1);
    }

    static void no(String call, boolean got) {
        is(call, got ? 1 : 0, 0);
    }

    /** The bytes of the disks 0..5 in a stripe; -1 for one that is not there. */
    static void stripe(String when, RaidPool pool, int stripe, int... want) {
        for (int disk = 0; disk < want.length; disk++) {
            is(when + ": raw(" + disk + ", " + stripe + ")", pool.raw(disk, stripe), want[disk]);
        }
    }

    /** That what Sample.look saw before is what is seen now. */
    static void unchanged(String when, int[] before, RaidPool pool) {
        int[] now = Sample.look(pool);
        for (int i = 0; i < before.length; i++) {
            is(when + ", nothing changes: look " + i, now[i], before[i]);
        }
    }

    static void end() {
        nothingIsLeftUnasked();
        System.out.println(sentences + " sentences, " + asked + " answers, " + wrong + " of them not as due");
        if (wrong != 0 || asked == 0) {
            System.exit(1);
        }
    }

    private static void nothingIsLeftUnasked() {
        if (sentences > 0 && asked == askedBefore) {
            wrong++;
            System.out.println("\"" + sentence + "\": no answer was asked for");
        }
        askedBefore = asked;
    }
}
