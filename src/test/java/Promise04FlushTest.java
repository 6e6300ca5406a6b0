/** Promise 4: flush. */
final class Promise04FlushTest {
    public static void main(String[] args) {
        order();
        untilOneIsNotOk();
        crashes();
        Due.end();
    }

    private static void order() {
        RaidPool pool = new RaidPool();
        Due.is("nothing waits", pool.flush(1), 0);
        pool.delay(6);
        for (int i = 0; i < 6; i++) {
            pool.write(0, 10 - i, 50 + i);
        }
        for (int n : new int[] {0, -1, 7, Integer.MAX_VALUE, Integer.MIN_VALUE}) {
            Due.is("flush(" + n + ")", pool.flush(n), RaidPool.NONE);
        }
        Due.is("six wait", pool.state(7), 6);
        Due.is("flush(2)", pool.flush(2), 2);
        Due.is("place(0, 10)", pool.place(0, 10), 0);
        Due.is("place(0, 9)", pool.place(0, 9), 1);
        Due.is("place(0, 8)", pool.place(0, 8), -1);
        Due.is("four wait", pool.state(7), 4);
        Due.is("flush(6)", pool.flush(6), 4);
        Due.is("place(0, 5)", pool.place(0, 5), 5);
        Due.is("raw(3, 0)", pool.raw(3, 0), 53);
        Due.is("nothing waits", pool.state(7), 0);
        Due.is("flush(6)", pool.flush(6), 0);
    }

    private static void untilOneIsNotOk() {
        RaidPool pool = Sample.full();
        pool.delay(4);
        pool.write(3, 0, 1);
        pool.write(3, 10, 2);
        pool.write(3, 1, 3);
        Due.is("the second one is FULL", pool.flush(6), 1);
        Due.is("two wait", pool.state(7), 2);
        Due.is("read(3, 10)", pool.read(3, 10), 2);
        Due.is("flush(6)", pool.flush(6), 0);
        pool.trim(0, 2);
        Due.is("flush(6)", pool.flush(6), 2);
        Due.is("place(3, 10)", pool.place(3, 10), 2);

        pool.write(0, 0, 1);
        pool.change(0, true);
        pool.change(1, true);
        pool.change(5, true);
        Due.is("LOST", pool.flush(6), 0);
        Due.is("it waits still", pool.state(7), 1);
        pool.change(5, false);
        pool.rebuild(1);
        Due.is("not lost any more", pool.flush(6), 1);
    }

    private static void crashes() {
        RaidPool pool = Sample.filled();
        pool.delay(3);
        pool.write(0, 0, 1);
        pool.write(0, 1, 2);
        pool.write(0, 2, 3);
        Due.is("flush(1)", pool.flush(1), 1);
        pool.crash(1);
        Due.is("how many were OK, though it goes down", pool.flush(6), 0);
        Due.is("it is down", pool.state(6), 1);
        Due.is("all that wait are lost", pool.state(7), 0);
        Due.is("DOWN if it was down", pool.flush(6), RaidPool.DOWN);
        Due.is("DOWN for another n, too", pool.flush(0), RaidPool.DOWN);
        pool.recover();
        Due.is("read(0, 0)", pool.read(0, 0), 1);
        Due.is("read(0, 1)", pool.read(0, 1), 2);
        Due.is("read(0, 2)", pool.read(0, 2), Sample.value(2));
        Due.is("flush(6)", pool.flush(6), 0);
    }
}
