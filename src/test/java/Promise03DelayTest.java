/** Promise 3: delay. */
final class Promise03DelayTest {
    public static void main(String[] args) {
        zeroToSix();
        noneOfThese();
        moreWait();
        upToDelay();
        whileDown();
        Due.end();
    }

    private static void zeroToSix() {
        Due.sentence("Sets DELAY (0..6): true");
        for (int n = 0; n <= 6; n++) {
            RaidPool pool = new RaidPool();
            Due.yes("delay(" + n + ")", pool.delay(n));
            for (int lblock = 0; lblock < 8; lblock++) {
                Due.is("write", pool.write(0, lblock, 1), RaidPool.OK);
            }
            Due.is("so many wait with delay(" + n + ")", pool.state(7), n);
        }
    }

    private static void noneOfThese() {
        Due.sentence("false, and nothing changes, if it is none of these");
        RaidPool pool = new RaidPool();
        for (int n : Sample.outside(0, 6)) {
            Due.no("delay(" + n + ")", pool.delay(n));
        }
        Due.is("write", pool.write(0, 0, 1), RaidPool.OK);
        Due.is("DELAY is still 0", pool.state(7), 0);
        pool.delay(2);
        for (int n : Sample.outside(0, 6)) {
            Due.no("delay(" + n + ")", pool.delay(n));
        }
        for (int lblock = 0; lblock < 4; lblock++) {
            pool.write(0, lblock, 1);
        }
        Due.is("DELAY is still 2", pool.state(7), 2);
    }

    private static void moreWait() {
        Due.sentence("false, and nothing changes, if [..] more wait");
        RaidPool pool = new RaidPool();
        pool.delay(6);
        for (int lblock = 1; lblock <= 6; lblock++) {
            pool.write(0, lblock, lblock);
        }
        Due.no("delay(5) with six that wait", pool.delay(5));
        Due.no("delay(0) with six that wait", pool.delay(0));
        Due.yes("delay(6) with six that wait", pool.delay(6));
        Due.is("flush(4)", pool.flush(4), 4);
        Due.no("delay(1) with two that wait", pool.delay(1));
        Due.is("DELAY is still 6", pool.write(0, 7, 7), RaidPool.OK);
        Due.is("three wait", pool.state(7), 3);
        Due.no("delay(2) with three that wait", pool.delay(2));
        Due.yes("delay(3) with three that wait", pool.delay(3));
        Due.is("DELAY is 3", pool.write(0, 8, 8), RaidPool.OK);
        Due.is("three wait", pool.state(7), 3);
        Due.is("flush(6)", pool.flush(6), 3);
        Due.yes("delay(0) with none that waits", pool.delay(0));
        Due.is("write", pool.write(0, 9, 9), RaidPool.OK);
        Due.is("nothing waits", pool.state(7), 0);
    }

    private static void upToDelay() {
        Due.sentence("up to DELAY [..] writes wait");
        RaidPool pool = new RaidPool();
        pool.delay(1);
        pool.write(0, 0, 1);
        pool.write(0, 1, 1);
        Due.is("one waits", pool.state(7), 1);
        pool.delay(3);
        pool.write(0, 2, 1);
        pool.write(0, 3, 1);
        Due.is("three wait", pool.state(7), 3);
        Due.is("one was written", pool.state(0), 63);
        pool.write(0, 4, 1);
        Due.is("three wait", pool.state(7), 3);
        Due.is("two were written", pool.state(0), 62);
    }

    private static void whileDown() {
        Due.sentence("While the pool is down write, flush, read, trim, snapshot, drop, rebuild and scrub answer DOWN: "
                + "delay is none of them");
        RaidPool pool = new RaidPool();
        pool.delay(2);
        pool.write(0, 0, 1);
        pool.crash(0);
        Due.is("flush(1)", pool.flush(1), 0);
        Due.no("delay(7)", pool.delay(7));
        Due.yes("delay(0): those that waited are lost", pool.delay(0));
        pool.recover();
        pool.write(0, 1, 1);
        Due.is("DELAY is 0", pool.state(7), 0);
    }
}
