/** Holds answers against those that are due, and ends a test with exit code 1 if one differed. */
final class Due {
    private static int asked = 0;
    private static int wrong = 0;

    private Due() {}

    static void is(String call, long got, long want) {
        asked++;
        if (got != want) {
            wrong++;
            System.out.println(call + " answered " + got + ", due is " + want);
        }
    }

    static void yes(String call, boolean got) {
        is(call, got ? 1 : 0, 1);
    }

    static void no(String call, boolean got) {
        is(call, got ? 1 : 0, 0);
    }

    /** The bytes of the disks 0..5 in a stripe; -1 for one that is not there. */
    static void stripe(String when, RaidPool pool, int stripe, int... want) {
        for (int disk = 0; disk < want.length; disk++) {
            is(when + ": raw(" + disk + ", " + stripe + ")", pool.raw(disk, stripe), want[disk]);
        }
    }

    static void end() {
        System.out.println(asked + " answers, " + wrong + " of them not as due");
        if (wrong != 0 || asked == 0) {
            System.exit(1);
        }
    }
}
