/** Promise 10: rebuild. */
final class Promise10RebuildTest {
    public static void main(String[] args) {
        everyPairComesBack();
        leastDiskFirst();
        lostStripesBecomeZero();
        numbers();
        Due.end();
    }

    private static void everyPairComesBack() {
        for (int a = 0; a < 6; a++) {
            for (int b = a + 1; b < 6; b++) {
                RaidPool pool = Sample.filled();
                RaidPool same = Sample.filled();
                pool.change(a, true);
                pool.change(b, true);
                pool.change(b, false);
                Due.is("rebuild(16)", pool.rebuild(16), 16);
                Due.is("it is good", pool.state(8 + b), 0);
                pool.change(a, false);
                Due.is("rebuild(16)", pool.rebuild(16), 16);
                for (int stripe = 0; stripe < 16; stripe++) {
                    for (int disk = 0; disk < 6; disk++) {
                        Due.is("raw(" + disk + ", " + stripe + ") after " + a + " and " + b,
                                pool.raw(disk, stripe), same.raw(disk, stripe));
                    }
                }
            }
        }
    }

    private static void leastDiskFirst() {
        RaidPool pool = Sample.filled();
        pool.change(1, true);
        pool.change(4, true);
        pool.change(4, false);
        Due.is("rebuild(3)", pool.rebuild(3), 3);
        pool.change(1, false);
        Due.is("rebuild(2)", pool.rebuild(2), 2);
        Due.is("mark of disk 1", pool.state(17), 2);
        Due.is("mark of disk 4", pool.state(20), 3);
        Due.is("raw(1, 1)", pool.raw(1, 1), Sample.value(4));
        Due.is("raw(1, 2)", pool.raw(1, 2), -1);
        pool.write(0, 4, 99);
        Due.is("a write below the mark", pool.raw(1, 1), 99);
        Due.is("rebuild(16)", pool.rebuild(16), 16);
        Due.is("disk 1 is good", pool.state(9), 0);
        Due.is("no mark", pool.state(17), -1);
        Due.is("mark of disk 4", pool.state(20), 5);
        Due.is("rebuild(16)", pool.rebuild(16), 11);
        Due.is("disk 4 is good", pool.state(12), 0);
        Due.is("rebuild(16)", pool.rebuild(16), 0);
        Due.is("all is right", pool.scrub(16), 0);
        Due.is("nothing is bad", pool.state(4), 0);
    }

    private static void lostStripesBecomeZero() {
        RaidPool pool = Sample.filled();
        pool.change(0, true);
        pool.change(1, true);
        pool.change(4, true);
        pool.change(4, false);
        Due.is("lost stripes", pool.state(3), 16);
        Due.is("rebuild(1)", pool.rebuild(1), 1);
        Due.is("the P of stripe 0", pool.raw(4, 0), 0);
        Due.is("lost stripes", pool.state(3), 15);
        pool.change(0, false);
        Due.is("rebuild(2)", pool.rebuild(2), 2);
        int d2 = Sample.value(2);
        int d3 = Sample.value(3);
        int d0 = pool.raw(0, 0);
        int d1 = pool.read(0, 1);
        Due.is("P is 0 now", Sample.p(d0, d1, d2, d3), 0);
        Due.is("Q as it was", Sample.q(d0, d1, d2, d3), pool.raw(5, 0));
        Due.is("stripe 1 was lost", pool.raw(0, 1), 0);
    }

    private static void numbers() {
        RaidPool pool = Sample.filled();
        for (int n : new int[] {0, -1, 17, Integer.MAX_VALUE, Integer.MIN_VALUE}) {
            Due.is("rebuild(" + n + ")", pool.rebuild(n), RaidPool.NONE);
        }
        Due.is("no disk is new", pool.rebuild(1), 0);
        pool.change(2, true);
        Due.is("a failed one is not new", pool.rebuild(16), 0);
        pool.change(2, false);
        Due.is("NONE", pool.rebuild(17), RaidPool.NONE);
        Due.is("nothing changes", pool.state(18), 0);
        pool.crash(1);
        pool.write(0, 0, 1);
        Due.is("down", pool.rebuild(1), RaidPool.DOWN);
        Due.is("nothing changes", pool.state(18), 0);
    }
}
