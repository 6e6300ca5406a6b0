/** Promise 13: crash, and "WRITING" and "CRASH" of the terms. */
final class Promise13CrashTest {
    public static void main(String[] args) {
        stopsAfterSoMany();
        oneAfterTheOther();
        whatIsLeftOutCounts();
        theLblockIsNotOnTheBlock();
        theNextWriting();
        set();
        none();
        others();
        whileDown();
        Due.end();
    }

    private static void stopsAfterSoMany() {
        Due.sentence("A CRASH that is set (0, 1 or 2) lets the next writing stop after so many of the three");
        for (int after = 0; after < 3; after++) {
            RaidPool pool = Sample.down(after);
            Due.is("down", pool.state(6), 1);
            Due.is("raw(0, 0)", pool.raw(0, 0), after > 0 ? 250 : Sample.value(0));
            Due.is("raw(4, 0)", pool.raw(4, 0), Sample.p0(after > 1 ? 250 : Sample.value(0)));
            Due.is("raw(5, 0)", pool.raw(5, 0), Sample.q0(Sample.value(0)));
        }
    }

    private static void oneAfterTheOther() {
        Due.sentence("one after the other: the block's disk, P's, Q's");
        // In stripe 4 the data bytes are on the disks 4, 5, 0, 1, P on 2 and Q on 3.
        for (int after = 0; after < 3; after++) {
            RaidPool pool = Sample.filled();
            int p = pool.raw(2, 4);
            int q = pool.raw(3, 4);
            pool.crash(after);
            Due.is("write", pool.write(0, 17, Sample.value(17) ^ 1), RaidPool.DOWN);
            Due.stripe("after " + after, pool, 4, Sample.value(18), Sample.value(19),
                    after > 1 ? p ^ 1 : p, q, Sample.value(16), Sample.value(17) ^ (after > 0 ? 1 : 0));
        }
    }

    private static void whatIsLeftOutCounts() {
        Due.sentence("what would go to a byte that is not there is left out (it counts all the same)");
        RaidPool pool = Sample.without(1);
        int p = pool.raw(4, 0);
        pool.crash(1);
        Due.is("write", pool.write(0, 1, 222), RaidPool.DOWN);
        Due.is("the block's byte counted: P was not put", pool.raw(4, 0), p);
        pool.recover();
        Due.is("now it is", pool.raw(4, 0), p ^ Sample.value(1) ^ 222);
        Due.is("read(0, 1)", pool.read(0, 1), 222);
        int q = pool.raw(5, 0);
        pool.change(4, true);
        pool.crash(2);
        Due.is("write", pool.write(0, 1, 3), RaidPool.DOWN);
        Due.is("both counted: Q was not put", pool.raw(5, 0), q);
        pool.recover();
        Due.is("read(0, 1)", pool.read(0, 1), 3);
        RaidPool other = Sample.without(5);
        other.crash(2);
        Due.is("Q's disk is away, and it is down all the same", other.write(0, 0, 1), RaidPool.DOWN);
    }

    private static void theLblockIsNotOnTheBlock() {
        Due.sentence("and after it the lblock is on the block");
        for (int after = 0; after < 3; after++) {
            RaidPool pool = new RaidPool();
            pool.crash(after);
            Due.is("write", pool.write(0, 6, 55), RaidPool.DOWN);
            Due.is("not yet", pool.place(0, 6), -1);
            Due.is("free blocks", pool.state(0), 64);
        }
        RaidPool pool = new RaidPool();
        pool.write(0, 6, 55);
        Due.is("after a writing that is OK", pool.place(0, 6), 0);
    }

    private static void theNextWriting() {
        Due.sentence("Sets a crash (0..2) for the next writing");
        RaidPool pool = Sample.full();
        pool.crash(0);
        Due.is("FULL is none", pool.write(3, 10, 1), RaidPool.FULL);
        Due.is("NONE is none", pool.write(3, 20, 1), RaidPool.NONE);
        Due.is("read", pool.read(3, 0), 150);
        Due.is("trim", pool.trim(3, 0), RaidPool.OK);
        Due.is("snapshot", pool.snapshot(1), 4);
        Due.is("drop", pool.drop(4), 0);
        Due.is("scrub", pool.scrub(16), 0);
        pool.change(0, true);
        pool.change(0, false);
        Due.is("rebuild", pool.rebuild(16), 16);
        pool.delay(1);
        Due.is("one that waits is not written yet", pool.write(2, 0, 1), RaidPool.OK);
        pool.change(0, true);
        pool.change(1, true);
        pool.change(2, true);
        Due.is("LOST is none", pool.write(2, 1, 1), RaidPool.LOST);
        Due.is("it is not down", pool.state(6), 0);
        pool.trim(2, 0);
        pool.delay(0);
        pool.change(2, false);
        pool.rebuild(16);
        Due.is("the crash is set still", pool.write(2, 1, 1), RaidPool.DOWN);
    }

    private static void set() {
        Due.sentence("Sets a crash (0..2) [..]: true");
        for (int after = 0; after < 3; after++) {
            RaidPool pool = Sample.filled();
            Due.yes("crash(" + after + ")", pool.crash(after));
            Due.is("not down yet", pool.state(6), 0);
            Due.is("write", pool.write(0, 0, 1), RaidPool.DOWN);
        }
        RaidPool pool = Sample.filled();
        Due.yes("crash(2)", pool.crash(2));
        Due.yes("crash(0)", pool.crash(0));
        Due.is("write", pool.write(0, 0, 1), RaidPool.DOWN);
        Due.is("the latest counts", pool.raw(0, 0), Sample.value(0));
    }

    private static void none() {
        Due.sentence("or none (-1): true");
        RaidPool pool = Sample.filled();
        Due.yes("with none set", pool.crash(-1));
        for (int after = 0; after < 3; after++) {
            pool.crash(after);
            Due.yes("crash(-1)", pool.crash(-1));
            Due.is("write", pool.write(0, 0, after), RaidPool.OK);
        }
    }

    private static void others() {
        Due.sentence("false, and nothing changes, for others");
        RaidPool pool = Sample.filled();
        for (int after : Sample.outside(-1, 2)) {
            Due.no("crash(" + after + ")", pool.crash(after));
        }
        Due.is("none is set", pool.write(0, 0, 1), RaidPool.OK);
        pool.crash(1);
        for (int after : Sample.outside(-1, 2)) {
            Due.no("crash(" + after + ")", pool.crash(after));
        }
        Due.is("it is set still", pool.write(0, 0, 2), RaidPool.DOWN);
        Due.is("after one", pool.raw(0, 0), 2);
        Due.is("not after two", pool.raw(4, 0), Sample.p0(1));
    }

    private static void whileDown() {
        Due.sentence("While the pool is down write, flush, read, trim, snapshot, drop, rebuild and scrub answer DOWN: "
                + "crash is none of them");
        RaidPool pool = Sample.down(0);
        Due.yes("crash(1)", pool.crash(1));
        Due.no("crash(3)", pool.crash(3));
        Due.yes("recover() is no writing", pool.recover());
        Due.is("raw(5, 0)", pool.raw(5, 0), Sample.q0(250));
        Due.is("the next writing", pool.write(0, 0, 4), RaidPool.DOWN);
        Due.is("raw(0, 0)", pool.raw(0, 0), 4);
        Due.is("raw(4, 0)", pool.raw(4, 0), Sample.p0(250));
    }
}
