/** Promise 6: trim. */
final class Promise06TrimTest {
    public static void main(String[] args) {
        emptyThen();
        aSharedOne();
        nothingWaitsForIt();
        anEmptyOne();
        none();
        down();
        Due.end();
    }

    private static void emptyThen() {
        Due.sentence("The lblock is empty then: OK");
        RaidPool pool = Sample.filled();
        Due.is("trim(0, 4)", pool.trim(0, 4), RaidPool.OK);
        Due.is("place(0, 4)", pool.place(0, 4), -1);
        Due.is("read(0, 4)", pool.read(0, 4), 0);
        Due.is("the byte stays on the disk", pool.raw(1, 1), Sample.value(4));
        Due.is("free blocks", pool.state(0), 45);
        Due.is("the last one", pool.trim(0, 19), RaidPool.OK);
        Due.is("place(0, 19)", pool.place(0, 19), -1);
        Due.is("place(0, 18)", pool.place(0, 18), 18);
        pool.change(0, true);
        pool.change(1, true);
        pool.change(2, true);
        Due.is("in a lost stripe", pool.trim(0, 0), RaidPool.OK);
        Due.is("read(0, 0)", pool.read(0, 0), 0);
    }

    private static void aSharedOne() {
        Due.sentence("The lblock is empty then: one of several on a block");
        RaidPool pool = Sample.filled();
        pool.snapshot(0);
        Due.is("trim(1, 6)", pool.trim(1, 6), RaidPool.OK);
        Due.is("its block is not free", pool.state(0), 44);
        Due.is("it is not shared any more", pool.state(1), 19);
        Due.is("place(0, 6)", pool.place(0, 6), 6);
        Due.is("place(1, 6)", pool.place(1, 6), -1);
        Due.is("the other one", pool.trim(0, 6), RaidPool.OK);
        Due.is("now it is free", pool.state(0), 45);
    }

    private static void nothingWaitsForIt() {
        Due.sentence("and nothing waits for it");
        RaidPool pool = Sample.filled();
        pool.snapshot(0);
        pool.delay(3);
        pool.write(0, 1, 1);
        pool.write(0, 2, 2);
        pool.write(1, 2, 3);
        Due.is("trim(0, 2)", pool.trim(0, 2), RaidPool.OK);
        Due.is("two wait", pool.state(7), 2);
        Due.is("read(0, 2)", pool.read(0, 2), 0);
        Due.is("read(1, 2)", pool.read(1, 2), 3);
        Due.is("read(0, 1)", pool.read(0, 1), 1);
        Due.is("flush(6)", pool.flush(6), 2);
        Due.is("place(0, 2)", pool.place(0, 2), -1);
    }

    private static void anEmptyOne() {
        Due.sentence("The lblock is empty then: OK, if it was empty too");
        RaidPool pool = new RaidPool();
        Due.is("trim(0, 0)", pool.trim(0, 0), RaidPool.OK);
        Due.is("free blocks", pool.state(0), 64);
        pool.delay(1);
        pool.write(0, 0, 5);
        Due.is("one that waits alone", pool.trim(0, 0), RaidPool.OK);
        Due.is("nothing waits", pool.state(7), 0);
        Due.is("read(0, 0)", pool.read(0, 0), 0);
    }

    private static void none() {
        Due.sentence("NONE");
        RaidPool pool = Sample.filled();
        int[] before = Sample.look(pool);
        for (int volume : Sample.outside(0, 5)) {
            Due.is("trim(" + volume + ", 0)", pool.trim(volume, 0), RaidPool.NONE);
        }
        for (int lblock : Sample.outside(0, 19)) {
            Due.is("trim(0, " + lblock + ")", pool.trim(0, lblock), RaidPool.NONE);
        }
        Due.is("a volume that is not there", pool.trim(1, 0), RaidPool.NONE);
        Due.unchanged("NONE", before, pool);
    }

    private static void down() {
        Due.sentence("DOWN");
        RaidPool pool = Sample.down(2);
        int[] before = Sample.look(pool);
        Due.is("trim(0, 9)", pool.trim(0, 9), RaidPool.DOWN);
        Due.is("trim(0, 20)", pool.trim(0, 20), RaidPool.DOWN);
        Due.unchanged("down", before, pool);
        pool.recover();
        Due.is("read(0, 9)", pool.read(0, 9), Sample.value(9));
    }
}
