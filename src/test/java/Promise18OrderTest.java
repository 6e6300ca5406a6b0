/** Promise 18: while the pool is down, DOWN goes before all else and nothing changes. */
final class Promise18OrderTest {
    private static final int[] NUMBERS = {0, 1, 3, 6, 7, 16, 17, 20, -1, Integer.MAX_VALUE, Integer.MIN_VALUE};

    public static void main(String[] args) {
        write();
        flush();
        read();
        trim();
        snapshot();
        drop();
        rebuild();
        scrub();
        nothingChanges();
        theOthers();
        untilRecovered();
        Due.end();
    }

    private static final String WORDS = "answer DOWN before anything else is looked at "
            + "(also for numbers that are out of range): ";

    private static void write() {
        Due.sentence(WORDS + "write");
        RaidPool pool = Sample.down(1);
        for (int n : NUMBERS) {
            Due.is("write(" + n + ", 0, 1)", pool.write(n, 0, 1), RaidPool.DOWN);
            Due.is("write(0, " + n + ", 1)", pool.write(0, n, 1), RaidPool.DOWN);
        }
        pool.delay(1);
        for (int n : NUMBERS) {
            Due.is("with a delay: write(" + n + ", 0, 1)", pool.write(n, 0, 1), RaidPool.DOWN);
            Due.is("with a delay: write(0, " + n + ", 1)", pool.write(0, n, 1), RaidPool.DOWN);
        }
        pool.delay(0);
        pool.change(1, true);
        pool.change(2, true);
        pool.change(3, true);
        Due.is("DOWN goes before LOST", pool.write(0, 1, 1), RaidPool.DOWN);
        RaidPool full = Sample.full();
        full.crash(0);
        full.write(0, 0, 1);
        Due.is("DOWN goes before FULL", full.write(3, 10, 1), RaidPool.DOWN);
    }

    private static void flush() {
        Due.sentence(WORDS + "flush");
        RaidPool pool = Sample.down(1);
        for (int n : NUMBERS) {
            Due.is("flush(" + n + ")", pool.flush(n), RaidPool.DOWN);
        }
    }

    private static void read() {
        Due.sentence(WORDS + "read");
        RaidPool pool = Sample.down(1);
        for (int n : NUMBERS) {
            Due.is("read(" + n + ", 1)", pool.read(n, 1), RaidPool.DOWN);
            Due.is("read(0, " + n + ")", pool.read(0, n), RaidPool.DOWN);
        }
        pool.change(1, true);
        pool.change(2, true);
        pool.change(3, true);
        Due.is("DOWN goes before LOST", pool.read(0, 1), RaidPool.DOWN);
    }

    private static void trim() {
        Due.sentence(WORDS + "trim");
        RaidPool pool = Sample.down(1);
        for (int n : NUMBERS) {
            Due.is("trim(" + n + ", 1)", pool.trim(n, 1), RaidPool.DOWN);
            Due.is("trim(0, " + n + ")", pool.trim(0, n), RaidPool.DOWN);
        }
    }

    private static void snapshot() {
        Due.sentence(WORDS + "snapshot");
        RaidPool pool = Sample.down(1);
        for (int n : NUMBERS) {
            Due.is("snapshot(" + n + ")", pool.snapshot(n), RaidPool.DOWN);
        }
        RaidPool all = Sample.filled();
        for (int i = 0; i < 5; i++) {
            all.snapshot(0);
        }
        all.crash(0);
        all.write(0, 0, 1);
        Due.is("DOWN goes before FULL", all.snapshot(0), RaidPool.DOWN);
    }

    private static void drop() {
        Due.sentence(WORDS + "drop");
        RaidPool pool = Sample.down(1);
        for (int n : NUMBERS) {
            Due.is("drop(" + n + ")", pool.drop(n), RaidPool.DOWN);
        }
    }

    private static void rebuild() {
        Due.sentence(WORDS + "rebuild");
        RaidPool pool = Sample.down(1);
        for (int n : NUMBERS) {
            Due.is("rebuild(" + n + ")", pool.rebuild(n), RaidPool.DOWN);
        }
    }

    private static void scrub() {
        Due.sentence(WORDS + "scrub");
        RaidPool pool = Sample.down(1);
        for (int n : NUMBERS) {
            Due.is("scrub(" + n + ")", pool.scrub(n), RaidPool.DOWN);
        }
    }

    private static void nothingChanges() {
        Due.sentence("While the pool is down reads, writes, flushes, snapshots, trims, drops, rebuilding and "
                + "scrubbing answer DOWN and change nothing.");
        RaidPool pool = Sample.filled();
        pool.snapshot(0);
        pool.change(3, true);
        pool.change(3, false);
        pool.crash(1);
        Due.is("write", pool.write(0, 0, 250), RaidPool.DOWN);
        int[] before = Sample.look(pool);
        for (int n : new int[] {0, 1, 16}) {
            Due.is("write(1, " + n + ", 1)", pool.write(1, n, 1), RaidPool.DOWN);
            Due.is("flush(" + n + ")", pool.flush(n), RaidPool.DOWN);
            Due.is("read(1, " + n + ")", pool.read(1, n), RaidPool.DOWN);
            Due.is("trim(1, " + n + ")", pool.trim(1, n), RaidPool.DOWN);
            Due.is("snapshot(" + n + ")", pool.snapshot(n), RaidPool.DOWN);
            Due.is("drop(" + n + ")", pool.drop(n), RaidPool.DOWN);
            Due.is("rebuild(" + n + ")", pool.rebuild(n), RaidPool.DOWN);
            Due.is("scrub(" + n + ")", pool.scrub(n), RaidPool.DOWN);
        }
        Due.unchanged("down", before, pool);
        Due.yes("recover()", pool.recover());
        Due.is("what was noted first", pool.read(0, 0), 250);
        Due.is("read(1, 1)", pool.read(1, 1), Sample.value(1));
    }

    private static void theOthers() {
        Due.sentence("write, flush, read, trim, snapshot, drop, rebuild and scrub: the others do what they do");
        RaidPool pool = Sample.down(1);
        Due.yes("delay(2)", pool.delay(2));
        Due.yes("change(5, true)", pool.change(5, true));
        Due.yes("spoil(1, 0, 1)", pool.spoil(1, 0, 1));
        Due.yes("crash(-1)", pool.crash(-1));
        Due.is("raw(5, 0)", pool.raw(5, 0), -1);
        Due.is("place(0, 1)", pool.place(0, 1), 1);
        Due.is("state(0)", pool.state(0), 44);
        Due.yes("recover()", pool.recover());
    }

    private static void untilRecovered() {
        Due.sentence("the pool is DOWN then, until it is recovered");
        RaidPool pool = Sample.down(2);
        for (int i = 0; i < 3; i++) {
            Due.is("read(0, 1)", pool.read(0, 1), RaidPool.DOWN);
            Due.is("down", pool.state(6), 1);
        }
        pool.recover();
        Due.is("write", pool.write(0, 1, 1), RaidPool.OK);
        Due.is("flush", pool.flush(1), 0);
        Due.is("read", pool.read(0, 1), 1);
        Due.is("trim", pool.trim(0, 1), RaidPool.OK);
        Due.is("snapshot", pool.snapshot(0), 1);
        Due.is("drop", pool.drop(1), 0);
        Due.is("rebuild", pool.rebuild(1), 0);
        Due.is("scrub", pool.scrub(1), 0);
        Due.is("out of range again", pool.scrub(17), RaidPool.NONE);
    }
}
