/** Promise 13: crash. */
final class Promise13CrashTest {
    public static void main(String[] args) {
        stopsAfterSoMany();
        whatIsLeftOutCounts();
        setAndUnset();
        onlyAWritingMeetsIt();
        Due.end();
    }

    private static void stopsAfterSoMany() {
        for (int after = 0; after < 3; after++) {
            RaidPool pool = Sample.filled();
            int[] d = {Sample.value(0), Sample.value(1), Sample.value(2), Sample.value(3)};
            int p = Sample.p(d[0], d[1], d[2], d[3]);
            int q = Sample.q(d[0], d[1], d[2], d[3]);
            Due.yes("crash(" + after + ")", pool.crash(after));
            Due.is("write", pool.write(0, 1, 222), RaidPool.DOWN);
            Due.is("down", pool.state(6), 1);
            Due.stripe("after " + after, pool, 0, d[0], after > 0 ? 222 : d[1], d[2], d[3],
                    after > 1 ? Sample.p(d[0], 222, d[2], d[3]) : p, q);
            Due.yes("recover()", pool.recover());
            Due.stripe("recovered", pool, 0, d[0], 222, d[2], d[3],
                    Sample.p(d[0], 222, d[2], d[3]), Sample.q(d[0], 222, d[2], d[3]));
            Due.is("it is set no more", pool.write(0, 1, 1), RaidPool.OK);
        }
    }

    private static void whatIsLeftOutCounts() {
        RaidPool pool = Sample.filled();
        int p = pool.raw(4, 0);
        pool.change(1, true);
        pool.crash(1);
        Due.is("write", pool.write(0, 1, 222), RaidPool.DOWN);
        Due.is("P was not put", pool.raw(4, 0), p);
        pool.recover();
        Due.is("now it is", pool.raw(4, 0), p ^ Sample.value(1) ^ 222);
        Due.is("read(0, 1)", pool.read(0, 1), 222);

        int q = pool.raw(5, 0);
        pool.change(4, true);
        pool.crash(2);
        Due.is("write", pool.write(0, 1, 3), RaidPool.DOWN);
        Due.is("Q was not put", pool.raw(5, 0), q);
        pool.recover();
        Due.is("read(0, 1)", pool.read(0, 1), 3);
    }

    private static void setAndUnset() {
        RaidPool pool = new RaidPool();
        for (int after : new int[] {-2, 3, Integer.MAX_VALUE, Integer.MIN_VALUE}) {
            Due.no("crash(" + after + ")", pool.crash(after));
        }
        Due.is("none is set", pool.write(0, 0, 1), RaidPool.OK);
        Due.yes("crash(1)", pool.crash(1));
        Due.yes("crash(-1)", pool.crash(-1));
        Due.is("none is set", pool.write(0, 0, 2), RaidPool.OK);
        Due.yes("crash(2)", pool.crash(2));
        Due.yes("crash(0)", pool.crash(0));
        Due.no("crash(3)", pool.crash(3));
        Due.no("crash(-2)", pool.crash(-2));
        Due.is("the latest that was true counts", pool.write(0, 0, 3), RaidPool.DOWN);
        Due.is("raw(0, 0)", pool.raw(0, 0), 2);
        Due.yes("while it is down", pool.crash(1));
        Due.yes("recover() is no writing", pool.recover());
        Due.is("raw(0, 0)", pool.raw(0, 0), 3);
        Due.is("the next writing", pool.write(0, 0, 4), RaidPool.DOWN);
        Due.is("raw(0, 0)", pool.raw(0, 0), 4);
        Due.is("raw(4, 0)", pool.raw(4, 0), 3);
    }

    private static void onlyAWritingMeetsIt() {
        RaidPool pool = Sample.full();
        pool.crash(0);
        Due.is("FULL", pool.write(3, 10, 1), RaidPool.FULL);
        Due.is("NONE", pool.write(3, 20, 1), RaidPool.NONE);
        Due.is("read", pool.read(3, 0), 150);
        Due.is("trim", pool.trim(3, 0), RaidPool.OK);
        Due.is("snapshot", pool.snapshot(1), 4);
        Due.is("drop", pool.drop(4), 0);
        Due.is("scrub", pool.scrub(16), 0);
        pool.change(0, true);
        pool.change(0, false);
        Due.is("rebuild", pool.rebuild(16), 16);
        pool.delay(1);
        Due.is("one that waits", pool.write(2, 0, 1), RaidPool.OK);
        pool.change(0, true);
        pool.change(1, true);
        pool.change(2, true);
        Due.is("LOST", pool.write(2, 1, 1), RaidPool.LOST);
        Due.is("it is not down", pool.state(6), 0);
        pool.trim(2, 0);
        pool.delay(0);
        pool.change(2, false);
        pool.rebuild(16);
        Due.is("the crash is set still", pool.write(2, 1, 1), RaidPool.DOWN);
    }
}
