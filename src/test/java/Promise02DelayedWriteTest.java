/** Promise 2, its second half: write with a DELAY above 0; and "WAITING" of the terms. */
final class Promise02DelayedWriteTest {
    public static void main(String[] args) {
        none();
        down();
        itWaits();
        oneThatWaitsIsCut();
        inPlaceOfOne();
        theSameLblockWithAFullQueue();
        theOneWrittenLastIsLast();
        theFirstIsWrittenBefore();
        theFirstIsFull();
        theFirstIsLost();
        theFirstMeetsTheCrash();
        aCrashLosesAllThatWait();
        Due.end();
    }

    private static void none() {
        Due.sentence("With a DELAY above 0: NONE [..] likewise");
        RaidPool pool = Sample.filled();
        pool.delay(1);
        for (int volume : Sample.outside(0, 5)) {
            Due.is("write(" + volume + ", 0, 1)", pool.write(volume, 0, 1), RaidPool.NONE);
        }
        for (int lblock : Sample.outside(0, 19)) {
            Due.is("write(0, " + lblock + ", 1)", pool.write(0, lblock, 1), RaidPool.NONE);
        }
        Due.is("a volume that is not there", pool.write(1, 0, 1), RaidPool.NONE);
        Due.is("nothing waits", pool.state(7), 0);
        pool.write(0, 3, 1);
        Due.is("with a full queue", pool.write(0, 20, 1), RaidPool.NONE);
        Due.is("with a full queue", pool.write(1, 3, 1), RaidPool.NONE);
        Due.is("the first is not written for that", pool.state(7), 1);
        Due.is("raw(3, 0)", pool.raw(3, 0), Sample.value(3));
    }

    private static void down() {
        Due.sentence("With a DELAY above 0: [..] DOWN likewise");
        RaidPool pool = Sample.down(1);
        Due.yes("delay(2)", pool.delay(2));
        Due.is("write", pool.write(0, 1, 1), RaidPool.DOWN);
        Due.is("write to no lblock", pool.write(0, 20, 1), RaidPool.DOWN);
        Due.is("nothing waits", pool.state(7), 0);
        pool.recover();
        Due.is("read(0, 1)", pool.read(0, 1), Sample.value(1));
        Due.is("write", pool.write(0, 1, 1), RaidPool.OK);
        Due.is("one waits", pool.state(7), 1);
    }

    private static void itWaits() {
        Due.sentence("else it waits");
        RaidPool pool = new RaidPool();
        pool.delay(6);
        for (int i = 1; i <= 6; i++) {
            Due.is("write(0, " + i + ", 1)", pool.write(0, i, 40 + i), RaidPool.OK);
            Due.is("so many wait", pool.state(7), i);
        }
        Due.is("no block is taken", pool.state(0), 64);
        Due.is("place(0, 1)", pool.place(0, 1), -1);
        Due.is("raw(0, 0)", pool.raw(0, 0), 0);
        RaidPool lost = Sample.without(0, 1, 2);
        lost.delay(1);
        Due.is("though its stripe is lost", lost.write(0, 0, 1), RaidPool.OK);
        RaidPool full = Sample.full();
        full.delay(1);
        Due.is("though there is no free block", full.write(3, 10, 1), RaidPool.OK);
        full.crash(0);
        full.delay(2);
        Due.is("though a crash is set", full.write(3, 0, 1), RaidPool.OK);
        Due.is("two wait", full.state(7), 2);
    }

    private static void oneThatWaitsIsCut() {
        Due.sentence("Writes value & 255");
        RaidPool pool = new RaidPool();
        pool.delay(2);
        Due.is("write(0, 2, -2)", pool.write(0, 2, -2), RaidPool.OK);
        Due.is("write(0, 3, 256)", pool.write(0, 3, 256), RaidPool.OK);
        Due.is("read(0, 2)", pool.read(0, 2), 254);
        Due.is("read(0, 3)", pool.read(0, 3), 0);
        Due.is("flush(2)", pool.flush(2), 2);
        Due.is("raw(0, 0)", pool.raw(0, 0), 254);
        Due.is("raw(1, 0)", pool.raw(1, 0), 0);
    }

    private static void inPlaceOfOne() {
        Due.sentence("in place of one for the same lblock: OK");
        RaidPool pool = new RaidPool();
        pool.snapshot(0);
        pool.delay(3);
        pool.write(0, 4, 1);
        Due.is("write(0, 4, 3)", pool.write(0, 4, 3), RaidPool.OK);
        Due.is("one waits", pool.state(7), 1);
        Due.is("read(0, 4)", pool.read(0, 4), 3);
        Due.is("the same lblock of another volume", pool.write(1, 4, 5), RaidPool.OK);
        Due.is("two wait", pool.state(7), 2);
        Due.is("read(0, 4)", pool.read(0, 4), 3);
        Due.is("flush(6)", pool.flush(6), 2);
        Due.is("raw(0, 0)", pool.raw(0, 0), 3);
    }

    private static void theSameLblockWithAFullQueue() {
        Due.sentence("If it is none of these and DELAY wait already");
        RaidPool pool = new RaidPool();
        pool.delay(3);
        pool.write(0, 4, 1);
        pool.write(0, 5, 2);
        pool.write(0, 6, 3);
        for (int lblock = 4; lblock <= 6; lblock++) {
            Due.is("in place of one", pool.write(0, lblock, 9), RaidPool.OK);
            Due.is("none is written before", pool.state(0), 64);
            Due.is("three wait", pool.state(7), 3);
        }
        RaidPool full = Sample.full();
        full.delay(1);
        full.write(3, 10, 1);
        Due.is("the first could not be written, but need not", full.write(3, 10, 5), RaidPool.OK);
        Due.is("read(3, 10)", full.read(3, 10), 5);
    }

    private static void theOneWrittenLastIsLast() {
        Due.sentence("one for an lblock, the one that was written last last");
        RaidPool pool = new RaidPool();
        pool.delay(2);
        pool.write(0, 4, 1);
        pool.write(0, 5, 2);
        pool.write(0, 4, 3);
        Due.is("flush(1) writes the one for lblock 5", pool.flush(1), 1);
        Due.is("place(0, 5)", pool.place(0, 5), 0);
        Due.is("place(0, 4)", pool.place(0, 4), -1);
        Due.is("flush(1)", pool.flush(1), 1);
        Due.is("place(0, 4)", pool.place(0, 4), 1);
        Due.is("raw(1, 0)", pool.raw(1, 0), 3);
    }

    private static void theFirstIsWrittenBefore() {
        Due.sentence("DELAY wait already, the first one is written before");
        RaidPool pool = new RaidPool();
        pool.delay(2);
        pool.write(0, 9, 1);
        Due.is("one less than DELAY waits", pool.write(0, 8, 2), RaidPool.OK);
        Due.is("none is written", pool.state(0), 64);
        Due.is("DELAY wait", pool.write(0, 7, 3), RaidPool.OK);
        Due.is("two wait", pool.state(7), 2);
        Due.is("the first alone is written", pool.state(0), 63);
        Due.is("place(0, 9)", pool.place(0, 9), 0);
        Due.is("raw(0, 0)", pool.raw(0, 0), 1);
        Due.is("place(0, 8)", pool.place(0, 8), -1);
        Due.is("again", pool.write(0, 9, 4), RaidPool.OK);
        Due.is("place(0, 8)", pool.place(0, 8), 1);
        Due.is("read(0, 9)", pool.read(0, 9), 4);
        Due.is("raw(0, 0) is the older one", pool.raw(0, 0), 1);
        Due.is("flush(6)", pool.flush(6), 2);
        Due.is("place(0, 7)", pool.place(0, 7), 2);
        Due.is("raw(0, 0)", pool.raw(0, 0), 4);
    }

    private static void theFirstIsFull() {
        Due.sentence("if that is not OK, that is the answer, and this one does not wait: FULL");
        RaidPool pool = Sample.full();
        pool.delay(1);
        pool.write(3, 10, 1);
        Due.is("write(3, 0, 2)", pool.write(3, 0, 2), RaidPool.FULL);
        Due.is("one waits", pool.state(7), 1);
        Due.is("the first", pool.read(3, 10), 1);
        Due.is("this one does not wait", pool.read(3, 0), Sample.fullValue(60));
        pool.trim(0, 0);
        Due.is("now it goes", pool.write(3, 0, 2), RaidPool.OK);
        Due.is("place(3, 10)", pool.place(3, 10), 0);
        Due.is("read(3, 0)", pool.read(3, 0), 2);
    }

    private static void theFirstIsLost() {
        Due.sentence("if that is not OK, that is the answer, and this one does not wait: LOST");
        RaidPool pool = Sample.filled();
        pool.delay(2);
        pool.write(0, 0, 1);
        pool.write(0, 19, 2);
        pool.change(0, true);
        pool.change(1, true);
        pool.change(2, true);
        Due.is("write(0, 18, 3)", pool.write(0, 18, 3), RaidPool.LOST);
        Due.is("two wait", pool.state(7), 2);
        Due.is("read(0, 0)", pool.read(0, 0), 1);
        Due.is("read(0, 19)", pool.read(0, 19), 2);
        pool.trim(0, 0);
        Due.is("with room for it", pool.write(0, 18, 3), RaidPool.OK);
    }

    private static void theFirstMeetsTheCrash() {
        Due.sentence("if that is not OK, that is the answer, and this one does not wait: DOWN");
        RaidPool pool = Sample.filled();
        pool.delay(2);
        pool.write(0, 0, 1);
        pool.write(0, 1, 2);
        pool.crash(0);
        Due.is("write(0, 2, 3)", pool.write(0, 2, 3), RaidPool.DOWN);
        Due.is("down", pool.state(6), 1);
        Due.is("nothing waits", pool.state(7), 0);
        pool.recover();
        Due.is("the first was noted", pool.read(0, 0), 1);
        Due.is("this one is not there", pool.read(0, 2), Sample.value(2));
    }

    private static void aCrashLosesAllThatWait() {
        Due.sentence("with a crash all that wait are lost");
        RaidPool pool = Sample.filled();
        pool.delay(6);
        for (int lblock = 0; lblock < 6; lblock++) {
            pool.write(0, lblock, 100 + lblock);
        }
        pool.crash(2);
        Due.is("flush(1)", pool.flush(1), 0);
        Due.is("nothing waits", pool.state(7), 0);
        pool.recover();
        Due.is("nothing waits", pool.state(7), 0);
        Due.is("the noted one", pool.read(0, 0), 100);
        for (int lblock = 1; lblock < 6; lblock++) {
            Due.is("read(0, " + lblock + ")", pool.read(0, lblock), Sample.value(lblock));
        }
        Due.is("flush(6)", pool.flush(6), 0);
        pool.write(0, 0, 1);
        Due.is("DELAY is still 6", pool.state(7), 1);
    }
}
