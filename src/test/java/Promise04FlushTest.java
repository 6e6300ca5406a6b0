/** Promise 4: flush. */
final class Promise04FlushTest {
    public static void main(String[] args) {
        theFirstOnesFirst();
        upToN();
        untilOneIsFull();
        untilOneIsLost();
        untilTheCrash();
        anotherN();
        itWasDown();
        Due.end();
    }

    private static RaidPool sixWait() {
        RaidPool pool = new RaidPool();
        pool.delay(6);
        for (int i = 0; i < 6; i++) {
            pool.write(0, 10 - i, 50 + i);
        }
        Due.is("six wait", pool.state(7), 6);
        return pool;
    }

    private static void theFirstOnesFirst() {
        Due.sentence("Writes those that wait, the first ones first");
        RaidPool pool = sixWait();
        Due.is("flush(2)", pool.flush(2), 2);
        Due.is("place(0, 10)", pool.place(0, 10), 0);
        Due.is("place(0, 9)", pool.place(0, 9), 1);
        Due.is("place(0, 8)", pool.place(0, 8), -1);
        Due.is("flush(6)", pool.flush(6), 4);
        for (int i = 0; i < 6; i++) {
            Due.is("place(0, " + (10 - i) + ")", pool.place(0, 10 - i), i);
            Due.is("read(0, " + (10 - i) + ")", pool.read(0, 10 - i), 50 + i);
        }
        Due.is("raw(3, 0)", pool.raw(3, 0), 53);
    }

    private static void upToN() {
        Due.sentence("up to n (1..6) of them [..]: how many were");
        for (int n = 1; n <= 6; n++) {
            RaidPool pool = sixWait();
            Due.is("flush(" + n + ")", pool.flush(n), n);
            Due.is("so many wait still", pool.state(7), 6 - n);
            Due.is("so many have blocks", pool.state(0), 64 - n);
            Due.is("the rest", pool.flush(6), 6 - n);
            Due.is("nothing waits", pool.flush(6), 0);
        }
        Due.is("nothing ever waited", new RaidPool().flush(1), 0);
        RaidPool pool = new RaidPool();
        pool.delay(6);
        Due.is("nothing waits, with a delay", pool.flush(1), 0);
    }

    private static void untilOneIsFull() {
        Due.sentence("and until one is not OK: FULL");
        RaidPool pool = Sample.full();
        pool.delay(4);
        pool.write(3, 0, 1);
        pool.write(3, 10, 2);
        pool.write(3, 1, 3);
        Due.is("the second one is FULL", pool.flush(6), 1);
        Due.is("two wait", pool.state(7), 2);
        Due.is("read(3, 10)", pool.read(3, 10), 2);
        Due.is("the third one was not written", pool.raw((15 + 1) % 6, 15), Sample.fullValue(61));
        Due.is("flush(6)", pool.flush(6), 0);
        Due.is("two wait", pool.state(7), 2);
        pool.trim(0, 2);
        Due.is("flush(6)", pool.flush(6), 2);
        Due.is("place(3, 10)", pool.place(3, 10), 2);
    }

    private static void untilOneIsLost() {
        Due.sentence("and until one is not OK: LOST");
        RaidPool pool = Sample.filled();
        pool.delay(2);
        pool.write(0, 0, 1);
        pool.write(0, 4, 2);
        pool.change(0, true);
        pool.change(1, true);
        pool.change(5, true);
        Due.is("stripe 0 is lost", pool.flush(6), 0);
        Due.is("both wait still", pool.state(7), 2);
        pool.change(5, false);
        pool.rebuild(1);
        Due.is("stripe 0 is lost no more, stripe 1 is", pool.flush(6), 1);
        Due.is("one waits still", pool.state(7), 1);
        Due.is("read(0, 4)", pool.read(0, 4), 2);
    }

    private static void untilTheCrash() {
        Due.sentence("and until one is not OK: DOWN");
        RaidPool pool = Sample.filled();
        pool.delay(3);
        pool.write(0, 0, 1);
        pool.write(0, 1, 2);
        pool.write(0, 2, 3);
        Due.is("flush(1)", pool.flush(1), 1);
        pool.crash(1);
        Due.is("how many were OK, though it goes down", pool.flush(6), 0);
        Due.is("it is down", pool.state(6), 1);
        Due.is("all that wait are lost", pool.state(7), 0);
        pool.recover();
        Due.is("read(0, 0)", pool.read(0, 0), 1);
        Due.is("read(0, 1)", pool.read(0, 1), 2);
        Due.is("read(0, 2)", pool.read(0, 2), Sample.value(2));
        Due.is("flush(6)", pool.flush(6), 0);
    }

    private static void anotherN() {
        Due.sentence("NONE for another n");
        RaidPool pool = sixWait();
        for (int n : Sample.outside(1, 6)) {
            Due.is("flush(" + n + ")", pool.flush(n), RaidPool.NONE);
        }
        Due.is("six wait still", pool.state(7), 6);
        Due.is("none was written", pool.state(0), 64);
        Due.is("with nothing that waits, too", new RaidPool().flush(7), RaidPool.NONE);
    }

    private static void itWasDown() {
        Due.sentence("DOWN if it was down");
        RaidPool pool = Sample.down(1);
        int[] before = Sample.look(pool);
        Due.is("flush(1)", pool.flush(1), RaidPool.DOWN);
        Due.is("flush(0)", pool.flush(0), RaidPool.DOWN);
        Due.unchanged("down", before, pool);
        pool.recover();
        Due.is("flush(1)", pool.flush(1), 0);
    }
}
