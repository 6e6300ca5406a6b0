/** Promise 11: spoil. */
final class Promise11SpoilTest {
    public static void main(String[] args) {
        adds();
        xIsCut();
        unnoticed();
        notThere();
        noDiskOrStripe();
        whileDown();
        Due.end();
    }

    private static void adds() {
        Due.sentence("Adds (exclusive or) x [..] to a byte that is there [..]: true");
        RaidPool pool = Sample.filled();
        Due.yes("spoil(0, 0, 5)", pool.spoil(0, 0, 5));
        Due.is("raw(0, 0)", pool.raw(0, 0), Sample.value(0) ^ 5);
        Due.is("read(0, 0)", pool.read(0, 0), Sample.value(0) ^ 5);
        Due.yes("again", pool.spoil(0, 0, 5));
        Due.is("raw(0, 0)", pool.raw(0, 0), Sample.value(0));
        Due.yes("x is 0", pool.spoil(0, 0, 0));
        Due.is("raw(0, 0)", pool.raw(0, 0), Sample.value(0));
        Due.yes("the last byte, which nothing uses", pool.spoil(5, 15, 9));
        Due.is("raw(5, 15)", pool.raw(5, 15), 9);
    }

    private static void xIsCut() {
        Due.sentence("x & 255");
        int[][] cut = {{255, 255}, {256, 0}, {257, 1}, {-1, 255}, {-256, 0},
            {Integer.MAX_VALUE, 255}, {Integer.MIN_VALUE, 0}};
        for (int[] c : cut) {
            RaidPool pool = Sample.filled();
            Due.yes("spoil(1, 0, " + c[0] + ")", pool.spoil(1, 0, c[0]));
            Due.is("raw(1, 0)", pool.raw(1, 0), Sample.value(1) ^ c[1]);
        }
    }

    private static void unnoticed() {
        Due.sentence("unnoticed");
        RaidPool pool = Sample.filled();
        int[] before = Sample.look(pool);
        pool.spoil(0, 0, 5);
        before[0] ^= 5;
        Due.unchanged("beside that byte", before, pool);
        RaidPool waits = Sample.filled();
        waits.delay(1);
        waits.write(0, 0, 7);
        waits.spoil(0, 0, 5);
        Due.is("what waits is not touched", waits.read(0, 0), 7);
    }

    private static void notThere() {
        Due.sentence("false if it is not there");
        RaidPool pool = Sample.without(2);
        Due.no("a failed disk", pool.spoil(2, 0, 1));
        pool.change(2, false);
        Due.no("a new disk", pool.spoil(2, 0, 1));
        pool.rebuild(1);
        Due.is("it was not changed", pool.raw(2, 0), Sample.value(2));
        Due.yes("below its mark", pool.spoil(2, 0, 1));
        Due.no("at its mark", pool.spoil(2, 1, 1));
        Due.no("above its mark", pool.spoil(2, 15, 1));
        pool.rebuild(15);
        Due.is("stripe 1 was not changed", pool.raw(2, 1), Sample.value(5));
        Due.yes("the disk is good", pool.spoil(2, 15, 1));
    }

    private static void noDiskOrStripe() {
        Due.sentence("false if [..] no disk or stripe");
        RaidPool pool = Sample.filled();
        int[] before = Sample.look(pool);
        for (int disk : Sample.outside(0, 5)) {
            Due.no("spoil(" + disk + ", 0, 1)", pool.spoil(disk, 0, 1));
            Due.no("spoil(" + disk + ", 15, 1)", pool.spoil(disk, 15, 1));
        }
        for (int stripe : Sample.outside(0, 15)) {
            Due.no("spoil(0, " + stripe + ", 1)", pool.spoil(0, stripe, 1));
            Due.no("spoil(5, " + stripe + ", 1)", pool.spoil(5, stripe, 1));
        }
        Due.unchanged("refused", before, pool);
    }

    private static void whileDown() {
        Due.sentence("While the pool is down write, flush, read, trim, snapshot, drop, rebuild and scrub answer DOWN: "
                + "spoil is none of them");
        RaidPool pool = Sample.down(0);
        Due.yes("spoil(3, 0, 1)", pool.spoil(3, 0, 1));
        Due.is("raw(3, 0)", pool.raw(3, 0), Sample.value(3) ^ 1);
        Due.no("spoil(6, 0, 1)", pool.spoil(6, 0, 1));
    }
}
