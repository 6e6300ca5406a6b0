/** Promise 5: read. */
final class Promise05ReadTest {
    public static void main(String[] args) {
        whatWaits();
        theWorthOfTheBlock();
        worthsThatAreZero();
        anEmptyOne();
        none();
        lostAndNotThere();
        down();
        Due.end();
    }

    private static void whatWaits() {
        Due.sentence("What waits for an lblock");
        RaidPool pool = Sample.filled();
        pool.snapshot(0);
        pool.delay(3);
        pool.write(0, 0, 1);
        Due.is("read(0, 0)", pool.read(0, 0), 1);
        Due.is("not for another lblock", pool.read(0, 1), Sample.value(1));
        Due.is("not for another volume", pool.read(1, 0), Sample.value(0));
        pool.write(0, 0, 0);
        Due.is("a zero that waits", pool.read(0, 0), 0);
        pool.write(0, 0, 255);
        pool.change(0, true);
        pool.change(4, true);
        pool.change(5, true);
        Due.is("though the stripe is lost", pool.read(0, 0), 255);
        pool.trim(0, 7);
        pool.write(0, 7, 9);
        Due.is("though the lblock is empty", pool.read(0, 7), 9);
        Due.is("it waits still", pool.state(7), 2);
    }

    private static void theWorthOfTheBlock() {
        Due.sentence("else the worth of the block that it is on");
        for (int a = 0; a < 6; a++) {
            for (int b = a; b < 6; b++) {
                RaidPool pool = Sample.filled();
                pool.change(a, true);
                pool.change(b, true);
                for (int lblock = 0; lblock < 20; lblock++) {
                    Due.is("read(0, " + lblock + ") without " + a + " and " + b,
                            pool.read(0, lblock), Sample.value(lblock));
                }
            }
        }
    }

    private static void worthsThatAreZero() {
        Due.sentence("else the worth of the block that it is on: 0");
        for (int zero = 0; zero < 4; zero++) {
            for (int other = 0; other < 6; other++) {
                RaidPool pool = Sample.filled();
                pool.write(0, zero, 0);
                pool.change(zero, true);
                pool.change(other, true);
                for (int k = 0; k < 4; k++) {
                    Due.is("read(0, " + k + ") without " + zero + " and " + other,
                            pool.read(0, k), k == zero ? 0 : Sample.value(k));
                }
            }
        }
    }

    private static void anEmptyOne() {
        Due.sentence("0 if it is empty");
        RaidPool pool = Sample.filled();
        Due.is("trim(0, 0)", pool.trim(0, 0), RaidPool.OK);
        Due.is("read(0, 0)", pool.read(0, 0), 0);
        pool.change(0, true);
        pool.change(1, true);
        pool.change(2, true);
        Due.is("though all stripes are lost", pool.read(0, 0), 0);
        Due.is("a new object", new RaidPool().read(0, 19), 0);
    }

    private static void none() {
        Due.sentence("NONE");
        RaidPool pool = Sample.filled();
        for (int volume : Sample.outside(0, 5)) {
            Due.is("read(" + volume + ", 0)", pool.read(volume, 0), RaidPool.NONE);
        }
        for (int lblock : Sample.outside(0, 19)) {
            Due.is("read(0, " + lblock + ")", pool.read(0, lblock), RaidPool.NONE);
        }
        Due.is("a volume that is not there", pool.read(1, 0), RaidPool.NONE);
        Due.is("a volume that is not there", pool.read(5, 19), RaidPool.NONE);
        Due.is("the last lblock", pool.read(0, 19), Sample.value(19));
        Due.is("the first one", pool.read(0, 0), Sample.value(0));
    }

    private static void lostAndNotThere() {
        Due.sentence("LOST if its stripe is lost and the byte is not there");
        RaidPool pool = Sample.without(0, 4, 5);
        Due.is("not there", pool.read(0, 0), RaidPool.LOST);
        Due.is("there", pool.read(0, 1), Sample.value(1));
        pool.change(5, false);
        pool.rebuild(1);
        Due.is("Q is 0 now, and data byte 0 is what makes that right", pool.read(0, 0),
                Sample.q0(0));
        Due.is("stripe 1 is still lost: data byte 3 is on disk 4", pool.read(0, 7), RaidPool.LOST);
        Due.is("data byte 0 of it is on disk 1", pool.read(0, 4), Sample.value(4));
    }

    private static void down() {
        Due.sentence("DOWN");
        RaidPool pool = Sample.down(2);
        Due.is("what was being written", pool.read(0, 0), RaidPool.DOWN);
        Due.is("another one", pool.read(0, 5), RaidPool.DOWN);
        Due.is("no lblock", pool.read(0, 20), RaidPool.DOWN);
        pool.recover();
        Due.is("read(0, 5)", pool.read(0, 5), Sample.value(5));
    }
}
