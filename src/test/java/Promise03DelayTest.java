/** Promise 3: delay. */
final class Promise03DelayTest {
    public static void main(String[] args) {
        RaidPool pool = new RaidPool();
        for (int n : new int[] {-1, 7, 100, Integer.MAX_VALUE, Integer.MIN_VALUE}) {
            Due.no("delay(" + n + ")", pool.delay(n));
        }
        Due.is("DELAY is still 0", pool.write(0, 0, 1), RaidPool.OK);
        Due.is("place(0, 0)", pool.place(0, 0), 0);
        for (int n = 0; n <= 6; n++) {
            Due.yes("delay(" + n + ")", pool.delay(n));
        }
        for (int lblock = 1; lblock <= 6; lblock++) {
            Due.is("write", pool.write(0, lblock, lblock), RaidPool.OK);
        }
        Due.is("six wait", pool.state(7), 6);
        Due.no("delay(7)", pool.delay(7));
        Due.no("delay(5) with six that wait", pool.delay(5));
        Due.no("delay(0) with six that wait", pool.delay(0));
        Due.yes("delay(6)", pool.delay(6));
        Due.is("flush(4)", pool.flush(4), 4);
        Due.no("delay(1) with two that wait", pool.delay(1));
        Due.is("DELAY is still 6", pool.write(0, 7, 7), RaidPool.OK);
        Due.is("three wait", pool.state(7), 3);
        Due.yes("delay(3)", pool.delay(3));
        Due.is("DELAY is 3", pool.write(0, 8, 8), RaidPool.OK);
        Due.is("three wait", pool.state(7), 3);
        Due.is("flush(6)", pool.flush(6), 3);
        Due.yes("delay(0)", pool.delay(0));
        Due.is("write", pool.write(0, 9, 9), RaidPool.OK);
        Due.is("nothing waits", pool.state(7), 0);
        whileDown();
        Due.end();
    }

    private static void whileDown() {
        RaidPool pool = new RaidPool();
        pool.delay(2);
        pool.write(0, 0, 1);
        pool.crash(0);
        Due.is("flush(1)", pool.flush(1), 0);
        Due.yes("delay(0): those that waited are lost", pool.delay(0));
        pool.recover();
        pool.write(0, 1, 1);
        Due.is("DELAY is 0", pool.state(7), 0);
    }
}
