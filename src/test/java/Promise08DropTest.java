/** Promise 8: drop. */
final class Promise08DropTest {
    public static void main(String[] args) {
        thereNoMore();
        nothingWaitsForIt();
        howManyBecameFree();
        theLastOne();
        none();
        down();
        Due.end();
    }

    private static void thereNoMore() {
        Due.sentence("The volume is there no more");
        RaidPool pool = Sample.filled();
        pool.snapshot(0);
        Due.is("drop(1)", pool.drop(1), 0);
        Due.is("volumes", pool.state(2), 1);
        Due.is("read(1, 5)", pool.read(1, 5), RaidPool.NONE);
        Due.is("write(1, 5, 1)", pool.write(1, 5, 1), RaidPool.NONE);
        Due.is("place(1, 5)", pool.place(1, 5), -1);
        Due.is("snapshot(1)", pool.snapshot(1), RaidPool.NONE);
        Due.is("the other one", pool.read(0, 5), Sample.value(5));
        Due.is("shared blocks", pool.state(1), 0);
    }

    private static void nothingWaitsForIt() {
        Due.sentence("and nothing waits for it");
        RaidPool pool = Sample.filled();
        pool.snapshot(0);
        pool.delay(6);
        pool.write(0, 5, 3);
        pool.write(1, 0, 4);
        pool.write(1, 19, 4);
        pool.write(0, 6, 5);
        pool.write(1, 5, 4);
        Due.is("drop(1)", pool.drop(1), 0);
        Due.is("two wait", pool.state(7), 2);
        Due.is("read(0, 5)", pool.read(0, 5), 3);
        Due.is("read(0, 6)", pool.read(0, 6), 5);
        Due.is("a new volume 1", pool.snapshot(0), 1);
        Due.is("nothing waits", pool.state(7), 0);
        Due.is("read(1, 5)", pool.read(1, 5), 3);
        Due.is("read(1, 19)", pool.read(1, 19), Sample.value(19));
    }

    private static void howManyBecameFree() {
        Due.sentence("how many blocks became free");
        RaidPool pool = Sample.filled();
        pool.snapshot(0);
        Due.is("none: all are shared", pool.drop(1), 0);
        pool.snapshot(0);
        pool.write(1, 0, 1);
        pool.write(1, 1, 2);
        pool.trim(0, 2);
        Due.is("free blocks", pool.state(0), 42);
        Due.is("two of its own and the one that was trimmed elsewhere", pool.drop(1), 3);
        Due.is("free blocks", pool.state(0), 45);
        pool.delay(1);
        pool.write(0, 2, 1);
        Due.is("one that waits has none", pool.drop(0), 19);
        Due.is("free blocks", pool.state(0), 64);
    }

    private static void theLastOne() {
        Due.sentence("VOLUMES 0..5 are there or not");
        RaidPool pool = Sample.filled();
        Due.is("drop(0)", pool.drop(0), 20);
        Due.is("volumes", pool.state(2), 0);
        Due.is("write", pool.write(0, 0, 1), RaidPool.NONE);
        Due.is("snapshot(0)", pool.snapshot(0), RaidPool.NONE);
        Due.is("an empty one", new RaidPool().drop(0), 0);
    }

    private static void none() {
        Due.sentence("NONE");
        RaidPool pool = Sample.filled();
        int[] before = Sample.look(pool);
        for (int volume : Sample.outside(0, 5)) {
            Due.is("drop(" + volume + ")", pool.drop(volume), RaidPool.NONE);
        }
        Due.is("one that never was there", pool.drop(5), RaidPool.NONE);
        Due.unchanged("NONE", before, pool);
        pool.snapshot(0);
        pool.drop(1);
        Due.is("one that was dropped", pool.drop(1), RaidPool.NONE);
    }

    private static void down() {
        Due.sentence("DOWN");
        RaidPool pool = Sample.down(0);
        int[] before = Sample.look(pool);
        Due.is("drop(0)", pool.drop(0), RaidPool.DOWN);
        Due.is("drop(6)", pool.drop(6), RaidPool.DOWN);
        Due.unchanged("down", before, pool);
        pool.recover();
        Due.is("drop(0)", pool.drop(0), 20);
    }
}
