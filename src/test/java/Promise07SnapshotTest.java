/** Promise 7: snapshot. */
final class Promise07SnapshotTest {
    public static void main(String[] args) {
        theLeastThatIsNotThere();
        onTheSameBlocks();
        apartWhenWritten();
        none();
        allAreThere();
        down();
        thoseThatWaitAreWritten();
        aFullQueueIsWritten();
        alsoIfAllAreThere();
        oneIsFull();
        oneIsLost();
        oneMeetsTheCrash();
        Due.end();
    }

    private static void theLeastThatIsNotThere() {
        Due.sentence("The least volume that is not there is there [..]: its number");
        RaidPool pool = Sample.filled();
        for (int volume = 1; volume <= 5; volume++) {
            Due.is("snapshot(" + (volume - 1) + ")", pool.snapshot(volume - 1), volume);
            Due.is("volumes", pool.state(2), volume + 1);
        }
        pool.drop(4);
        pool.drop(2);
        Due.is("2 goes before 4", pool.snapshot(5), 2);
        Due.is("4 is left", pool.snapshot(2), 4);
        pool.drop(0);
        Due.is("volume 0 again", pool.snapshot(3), 0);
        Due.is("read(0, 3)", pool.read(0, 3), Sample.value(3));
    }

    private static void onTheSameBlocks() {
        Due.sentence("with its lblocks on the same blocks");
        RaidPool pool = Sample.filled();
        pool.trim(0, 3);
        Due.is("snapshot(0)", pool.snapshot(0), 1);
        for (int lblock = 0; lblock < 20; lblock++) {
            Due.is("place(1, " + lblock + ")", pool.place(1, lblock), lblock == 3 ? -1 : lblock);
            Due.is("read(1, " + lblock + ")", pool.read(1, lblock), lblock == 3 ? 0 : Sample.value(lblock));
        }
        Due.is("shared blocks", pool.state(1), 19);
        Due.is("free blocks", pool.state(0), 45);
        pool.write(0, 3, 1);
        pool.drop(1);
        Due.is("a volume that was there before", pool.snapshot(0), 1);
        Due.is("place(1, 3)", pool.place(1, 3), 3);
        Due.is("an empty volume", new RaidPool().snapshot(0), 1);
    }

    private static void apartWhenWritten() {
        Due.sentence("blocks shared until they are written");
        RaidPool pool = Sample.filled();
        pool.snapshot(0);
        pool.snapshot(1);
        pool.write(1, 0, 200);
        Due.is("a write to the copy", pool.read(1, 0), 200);
        Due.is("the first one", pool.read(0, 0), Sample.value(0));
        pool.write(0, 0, 100);
        Due.is("a write to the first", pool.read(0, 0), 100);
        Due.is("the third one", pool.read(2, 0), Sample.value(0));
        Due.is("it has its block alone now", pool.place(2, 0), 0);
    }

    private static void none() {
        Due.sentence("NONE if the volume is not there");
        RaidPool pool = Sample.filled();
        pool.delay(1);
        pool.write(0, 0, 1);
        int[] before = Sample.look(pool);
        for (int volume : Sample.outside(0, 5)) {
            Due.is("snapshot(" + volume + ")", pool.snapshot(volume), RaidPool.NONE);
        }
        Due.is("snapshot(1), the one that would be next", pool.snapshot(1), RaidPool.NONE);
        Due.is("snapshot(5)", pool.snapshot(5), RaidPool.NONE);
        Due.unchanged("NONE", before, pool);
    }

    private static RaidPool allThere() {
        RaidPool pool = new RaidPool();
        for (int volume = 1; volume <= 5; volume++) {
            Due.is("snapshot(0)", pool.snapshot(0), volume);
        }
        return pool;
    }

    private static void allAreThere() {
        Due.sentence("FULL if all are");
        RaidPool pool = allThere();
        Due.is("snapshot(0)", pool.snapshot(0), RaidPool.FULL);
        Due.is("snapshot(5)", pool.snapshot(5), RaidPool.FULL);
        Due.is("NONE goes before: there is no volume 6", pool.snapshot(6), RaidPool.NONE);
        Due.is("volumes", pool.state(2), 6);
        pool.drop(5);
        Due.is("one is not there", pool.snapshot(0), 5);
        Due.is("no free block is needed", Sample.full().snapshot(0), 4);
    }

    private static void down() {
        Due.sentence("DOWN");
        RaidPool pool = Sample.down(0);
        int[] before = Sample.look(pool);
        Due.is("snapshot(0)", pool.snapshot(0), RaidPool.DOWN);
        Due.is("DOWN, not NONE", pool.snapshot(9), RaidPool.DOWN);
        Due.unchanged("down", before, pool);
        pool.recover();
        Due.is("snapshot(0)", pool.snapshot(0), 1);
        Due.is("what was noted is in it", pool.read(1, 0), 250);
    }

    private static void thoseThatWaitAreWritten() {
        Due.sentence("Before that [..] those that wait for it are written, the first ones first");
        RaidPool pool = new RaidPool();
        Due.is("snapshot(0)", pool.snapshot(0), 1);
        pool.delay(6);
        pool.write(1, 0, 1);
        pool.write(0, 5, 2);
        pool.write(0, 4, 3);
        pool.write(1, 1, 4);
        pool.write(0, 3, 5);
        Due.is("snapshot(0)", pool.snapshot(0), 2);
        Due.is("those of volume 1 wait", pool.state(7), 2);
        Due.is("the first ones first: place(0, 5)", pool.place(0, 5), 0);
        Due.is("place(0, 4)", pool.place(0, 4), 1);
        Due.is("place(0, 3)", pool.place(0, 3), 2);
        Due.is("read(2, 4)", pool.read(2, 4), 3);
        Due.is("place(2, 4)", pool.place(2, 4), 1);
        Due.is("nothing waits for the copy", pool.read(2, 0), 0);
        Due.is("read(1, 1)", pool.read(1, 1), 4);
        Due.is("place(1, 1)", pool.place(1, 1), -1);
        Due.is("flush(1)", pool.flush(1), 1);
        Due.is("the first of volume 1 was first still", pool.place(1, 0), 3);
        Due.is("the second was not", pool.place(1, 1), -1);
    }

    private static void aFullQueueIsWritten() {
        Due.sentence("those that wait for it are written: all six");
        RaidPool pool = new RaidPool();
        pool.delay(6);
        for (int i = 0; i < 6; i++) {
            pool.write(0, 10 - i, 20 + i);
        }
        Due.is("snapshot(0)", pool.snapshot(0), 1);
        Due.is("nothing waits", pool.state(7), 0);
        for (int i = 0; i < 6; i++) {
            Due.is("place(1, " + (10 - i) + ")", pool.place(1, 10 - i), i);
            Due.is("read(1, " + (10 - i) + ")", pool.read(1, 10 - i), 20 + i);
        }
    }

    private static void alsoIfAllAreThere() {
        Due.sentence("(also if all are there)");
        RaidPool pool = allThere();
        pool.delay(2);
        pool.write(0, 7, 70);
        pool.write(1, 8, 80);
        Due.is("FULL", pool.snapshot(0), RaidPool.FULL);
        Due.is("what waited for it is written all the same", pool.place(0, 7), 0);
        Due.is("the other one waits", pool.state(7), 1);
        pool.crash(1);
        Due.is("the answer of the writing goes before FULL", pool.snapshot(1), RaidPool.DOWN);
        pool.recover();
        Due.is("FULL", pool.snapshot(1), RaidPool.FULL);
        Due.is("read(1, 8)", pool.read(1, 8), 80);
    }

    private static void oneIsFull() {
        Due.sentence("if one is not OK, that is the answer, and there is no new volume: FULL");
        RaidPool pool = Sample.full();
        pool.delay(3);
        pool.write(3, 0, 1);
        pool.write(3, 10, 2);
        pool.write(3, 1, 3);
        Due.is("FULL of the second", pool.snapshot(3), RaidPool.FULL);
        Due.is("no new volume", pool.state(2), 4);
        Due.is("the first was written", pool.raw(3, 15), 1);
        Due.is("the others wait", pool.state(7), 2);
        Due.is("read(3, 10)", pool.read(3, 10), 2);
        Due.is("read(3, 1)", pool.read(3, 1), 3);
        Due.is("nothing waits for volume 1", pool.snapshot(1), 4);
        Due.is("two wait", pool.state(7), 2);
    }

    private static void oneIsLost() {
        Due.sentence("if one is not OK, that is the answer, and there is no new volume: LOST");
        RaidPool pool = Sample.filled();
        pool.delay(1);
        pool.write(0, 0, 1);
        pool.change(0, true);
        pool.change(1, true);
        pool.change(2, true);
        Due.is("LOST", pool.snapshot(0), RaidPool.LOST);
        Due.is("no new volume", pool.state(2), 1);
        Due.is("it waits still", pool.state(7), 1);
        pool.trim(0, 0);
        Due.is("with nothing to write", pool.snapshot(0), 1);
    }

    private static void oneMeetsTheCrash() {
        Due.sentence("if one is not OK, that is the answer, and there is no new volume: DOWN");
        RaidPool pool = Sample.filled();
        pool.snapshot(0);
        pool.delay(3);
        pool.write(1, 0, 1);
        pool.write(0, 1, 2);
        pool.write(0, 2, 3);
        pool.crash(0);
        Due.is("snapshot(0)", pool.snapshot(0), RaidPool.DOWN);
        Due.is("down", pool.state(6), 1);
        Due.is("all that wait are lost, those of volume 1 too", pool.state(7), 0);
        Due.is("no new volume", pool.state(2), 2);
        Due.yes("recover()", pool.recover());
        Due.is("read(0, 1)", pool.read(0, 1), 2);
        Due.is("read(0, 2)", pool.read(0, 2), Sample.value(2));
        Due.is("snapshot(0)", pool.snapshot(0), 2);
    }
}
