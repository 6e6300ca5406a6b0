/** Promise 7: snapshot. */
final class Promise07SnapshotTest {
    public static void main(String[] args) {
        copies();
        theFirstVolumeAgain();
        waitingOnesAreWritten();
        aFullQueueIsWritten();
        waitingOnesThatCannot();
        allVolumesAreThere();
        Due.end();
    }

    private static void copies() {
        RaidPool pool = Sample.filled();
        pool.trim(0, 3);
        Due.is("snapshot(0)", pool.snapshot(0), 1);
        for (int lblock = 0; lblock < 20; lblock++) {
            Due.is("place(1, " + lblock + ")", pool.place(1, lblock), pool.place(0, lblock));
            Due.is("read(1, " + lblock + ")", pool.read(1, lblock), lblock == 3 ? 0 : Sample.value(lblock));
        }
        Due.is("shared blocks", pool.state(1), 19);
        Due.is("free blocks", pool.state(0), 45);
        Due.is("snapshot(1)", pool.snapshot(1), 2);
        Due.is("drop(1)", pool.drop(1), 0);
        Due.is("the least one that is not there", pool.snapshot(2), 1);
        Due.is("volumes", pool.state(2), 3);
        for (int volume : new int[] {-1, 3, 5, 6, Integer.MAX_VALUE, Integer.MIN_VALUE}) {
            Due.is("snapshot(" + volume + ")", pool.snapshot(volume), RaidPool.NONE);
        }
        pool.write(1, 0, 200);
        Due.is("a write to the copy", pool.read(1, 0), 200);
        Due.is("the other one", pool.read(0, 0), Sample.value(0));
        pool.write(0, 0, 100);
        Due.is("a write to the first", pool.read(0, 0), 100);
        Due.is("the third one", pool.read(2, 0), Sample.value(0));
    }

    private static void waitingOnesAreWritten() {
        RaidPool pool = new RaidPool();
        Due.is("snapshot(0)", pool.snapshot(0), 1);
        pool.delay(6);
        pool.write(1, 0, 1);
        pool.write(0, 5, 2);
        pool.write(0, 4, 3);
        pool.write(1, 1, 4);
        pool.write(0, 3, 5);
        Due.is("snapshot(0)", pool.snapshot(0), 2);
        Due.is("those of volume 1 wait", pool.state(7), 2);
        Due.is("the first ones first: place(0, 5)", pool.place(0, 5), 0);
        Due.is("place(0, 4)", pool.place(0, 4), 1);
        Due.is("place(0, 3)", pool.place(0, 3), 2);
        Due.is("read(2, 4)", pool.read(2, 4), 3);
        Due.is("place(2, 4)", pool.place(2, 4), 1);
        Due.is("read(1, 1)", pool.read(1, 1), 4);
        Due.is("place(1, 1)", pool.place(1, 1), -1);
        Due.is("flush(1)", pool.flush(1), 1);
        Due.is("the first of volume 1 was first still", pool.place(1, 0), 3);
        Due.is("NONE leaves those that wait", pool.snapshot(4), RaidPool.NONE);
        Due.is("one waits", pool.state(7), 1);
    }

    private static void theFirstVolumeAgain() {
        RaidPool pool = Sample.filled();
        pool.snapshot(0);
        pool.drop(0);
        pool.trim(1, 4);
        Due.is("volume 0 is the least that is not there", pool.snapshot(1), 0);
        Due.is("read(0, 3)", pool.read(0, 3), Sample.value(3));
        Due.is("place(0, 4)", pool.place(0, 4), -1);
        Due.is("volumes", pool.state(2), 2);
    }

    private static void aFullQueueIsWritten() {
        RaidPool pool = new RaidPool();
        pool.delay(6);
        for (int i = 0; i < 6; i++) {
            pool.write(0, 10 - i, 20 + i);
        }
        Due.is("snapshot(0)", pool.snapshot(0), 1);
        Due.is("nothing waits", pool.state(7), 0);
        for (int i = 0; i < 6; i++) {
            Due.is("place(1, " + (10 - i) + ")", pool.place(1, 10 - i), i);
            Due.is("read(1, " + (10 - i) + ")", pool.read(1, 10 - i), 20 + i);
        }
    }

    private static void waitingOnesThatCannot() {
        RaidPool pool = Sample.full();
        pool.delay(3);
        pool.write(3, 0, 1);
        pool.write(3, 10, 2);
        pool.write(3, 1, 3);
        Due.is("FULL of the second", pool.snapshot(3), RaidPool.FULL);
        Due.is("no new volume", pool.state(2), 4);
        Due.is("two wait", pool.state(7), 2);
        Due.is("another volume", pool.snapshot(1), 4);
        Due.is("two wait", pool.state(7), 2);
        pool.trim(3, 10);
        pool.crash(0);
        Due.is("DOWN of the one for lblock 1", pool.snapshot(3), RaidPool.DOWN);
        Due.is("nothing waits", pool.state(7), 0);
        Due.is("down", pool.state(6), 1);
        Due.is("no new volume", pool.state(2), 5);
        Due.is("DOWN", pool.snapshot(3), RaidPool.DOWN);
        Due.is("DOWN, not NONE", pool.snapshot(9), RaidPool.DOWN);
        Due.yes("recover()", pool.recover());
        Due.is("read(3, 1)", pool.read(3, 1), 3);
        Due.is("snapshot(3)", pool.snapshot(3), 5);

        RaidPool lost = Sample.filled();
        lost.delay(1);
        lost.write(0, 0, 1);
        lost.change(0, true);
        lost.change(1, true);
        lost.change(2, true);
        Due.is("LOST", lost.snapshot(0), RaidPool.LOST);
        Due.is("no new volume", lost.state(2), 1);
        Due.is("it waits still", lost.state(7), 1);
    }

    private static void allVolumesAreThere() {
        RaidPool pool = new RaidPool();
        for (int volume = 1; volume <= 5; volume++) {
            Due.is("snapshot(0)", pool.snapshot(0), volume);
        }
        pool.delay(2);
        pool.write(0, 7, 70);
        pool.write(1, 8, 80);
        Due.is("FULL", pool.snapshot(0), RaidPool.FULL);
        Due.is("what waited for it is written all the same", pool.place(0, 7), 0);
        Due.is("the other one waits", pool.state(7), 1);
        pool.crash(1);
        Due.is("DOWN goes before FULL", pool.snapshot(1), RaidPool.DOWN);
        pool.recover();
        Due.is("FULL", pool.snapshot(1), RaidPool.FULL);
        Due.is("read(1, 8)", pool.read(1, 8), 80);
    }
}
