/** Promise 8: drop. */
final class Promise08DropTest {
    public static void main(String[] args) {
        RaidPool pool = Sample.filled();
        pool.snapshot(0);
        pool.write(1, 0, 1);
        pool.write(1, 1, 2);
        pool.trim(0, 2);
        pool.delay(4);
        pool.write(0, 5, 3);
        pool.write(1, 5, 4);
        pool.write(0, 6, 5);
        Due.is("its own two blocks and the one that was trimmed elsewhere", pool.drop(1), 3);
        Due.is("nothing waits for it", pool.state(7), 2);
        Due.is("free blocks", pool.state(0), 45);
        Due.is("shared blocks", pool.state(1), 0);
        Due.is("volumes", pool.state(2), 1);
        Due.is("read(1, 5)", pool.read(1, 5), RaidPool.NONE);
        Due.is("place(1, 5)", pool.place(1, 5), -1);
        Due.is("read(0, 5)", pool.read(0, 5), 3);
        Due.is("drop(1) again", pool.drop(1), RaidPool.NONE);
        for (int volume : new int[] {-1, 5, 6, Integer.MAX_VALUE, Integer.MIN_VALUE}) {
            Due.is("drop(" + volume + ")", pool.drop(volume), RaidPool.NONE);
        }
        Due.is("the copy does not get what waited for the one before it", pool.snapshot(0), 1);
        Due.is("read(1, 5)", pool.read(1, 5), 3);
        Due.is("read(1, 2)", pool.read(1, 2), 0);
        Due.is("drop(1)", pool.drop(1), 0);
        pool.crash(0);
        pool.write(0, 9, 1);
        Due.is("flush(1)", pool.flush(1), 0);
        Due.is("down", pool.drop(0), RaidPool.DOWN);
        Due.is("nothing changes", pool.state(2), 1);
        pool.recover();
        Due.is("the last one", pool.drop(0), 19);
        Due.is("volumes", pool.state(2), 0);
        Due.is("free blocks", pool.state(0), 64);
        Due.is("write", pool.write(0, 0, 1), RaidPool.NONE);
        Due.end();
    }
}
