/** Promise 15: raw. */
final class Promise15RawTest {
    public static void main(String[] args) {
        theByte();
        notThere();
        noDiskOrStripe();
        whileDown();
        Due.end();
    }

    private static void theByte() {
        Due.sentence("The byte of a disk in a stripe");
        RaidPool pool = new RaidPool();
        for (int lblock = 0; lblock < 20; lblock++) {
            pool.write(0, lblock, 200 + lblock);
        }
        for (int block = 0; block < 20; block++) {
            int stripe = block / 4;
            Due.is("block " + block, pool.raw((stripe + block % 4) % 6, stripe), 200 + block);
        }
        for (int stripe = 0; stripe < 5; stripe++) {
            int v = 200 + 4 * stripe;
            Due.is("P of " + stripe, pool.raw((stripe + 4) % 6, stripe), Sample.p(v, v + 1, v + 2, v + 3));
            Due.is("Q of " + stripe, pool.raw((stripe + 5) % 6, stripe), Sample.q(v, v + 1, v + 2, v + 3));
        }
        pool.spoil(5, 15, 255);
        Due.is("the last one", pool.raw(5, 15), 255);
    }

    private static void notThere() {
        Due.sentence("-1 if it is not there");
        RaidPool pool = Sample.without(2);
        Due.is("failed", pool.raw(2, 0), -1);
        Due.is("failed", pool.raw(2, 15), -1);
        pool.change(2, false);
        Due.is("new", pool.raw(2, 0), -1);
        pool.rebuild(3);
        Due.is("below the mark", pool.raw(2, 2), Sample.value(8));
        Due.is("at the mark", pool.raw(2, 3), -1);
        Due.is("above the mark", pool.raw(2, 15), -1);
    }

    private static void noDiskOrStripe() {
        Due.sentence("-1 if [..] no disk or stripe");
        RaidPool pool = new RaidPool();
        for (int i = 0; i < 96; i++) {
            pool.spoil(i / 16, i % 16, 1);
        }
        for (int disk : Sample.outside(0, 5)) {
            Due.is("raw(" + disk + ", 0)", pool.raw(disk, 0), -1);
            Due.is("raw(" + disk + ", 15)", pool.raw(disk, 15), -1);
        }
        for (int stripe : Sample.outside(0, 15)) {
            Due.is("raw(0, " + stripe + ")", pool.raw(0, stripe), -1);
            Due.is("raw(1, " + stripe + ")", pool.raw(1, stripe), -1);
            Due.is("raw(5, " + stripe + ")", pool.raw(5, stripe), -1);
        }
    }

    private static void whileDown() {
        Due.sentence("While the pool is down write, flush, read, trim, snapshot, drop, rebuild and scrub answer DOWN: "
                + "raw is none of them");
        RaidPool pool = Sample.down(0);
        Due.is("raw(0, 0)", pool.raw(0, 0), Sample.value(0));
        Due.is("raw(6, 0)", pool.raw(6, 0), -1);
    }
}
