/** Promise 17: state. */
final class Promise17StateTest {
    public static void main(String[] args) {
        freeBlocks();
        sharedBlocks();
        volumes();
        lostStripes();
        badStripes();
        notRefused();
        nextStripe();
        down();
        waiting();
        disks();
        marks();
        otherwise();
        nothingChanges();
        Due.end();
    }

    private static void freeBlocks() {
        Due.sentence("What 0: how many blocks are free");
        Due.is("all", new RaidPool().state(0), 64);
        Due.is("some", Sample.filled().state(0), 44);
        RaidPool pool = Sample.full();
        Due.is("none", pool.state(0), 0);
        pool.trim(3, 3);
        Due.is("one", pool.state(0), 1);
    }

    private static void sharedBlocks() {
        Due.sentence("1: shared");
        RaidPool pool = Sample.filled();
        Due.is("none", pool.state(1), 0);
        pool.snapshot(0);
        Due.is("all twenty", pool.state(1), 20);
        pool.snapshot(0);
        Due.is("a third lblock on each", pool.state(1), 20);
        pool.write(2, 0, 1);
        Due.is("two are left", pool.state(1), 20);
        pool.write(1, 0, 1);
        Due.is("one is left", pool.state(1), 19);
    }

    private static void volumes() {
        Due.sentence("2: how many volumes are there");
        RaidPool pool = new RaidPool();
        for (int many = 1; many <= 6; many++) {
            Due.is("volumes", pool.state(2), many);
            pool.snapshot(0);
        }
        Due.is("not more than six", pool.state(2), 6);
        for (int volume = 0; volume < 6; volume++) {
            pool.drop(volume);
            Due.is("volumes", pool.state(2), 5 - volume);
        }
    }

    private static void lostStripes() {
        Due.sentence("3: how many stripes are lost");
        RaidPool pool = Sample.without(1, 5);
        Due.is("none", pool.state(3), 0);
        pool.change(0, true);
        Due.is("all", pool.state(3), 16);
        pool.change(5, false);
        pool.rebuild(5);
        Due.is("those from the mark on", pool.state(3), 11);
        pool.rebuild(11);
        Due.is("none", pool.state(3), 0);
    }

    private static void badStripes() {
        Due.sentence("4: how many BAD ones the latest scrub [..] met");
        RaidPool pool = Sample.filled();
        pool.spoil(4, 0, 1);
        pool.spoil(5, 0, 16);
        Due.is("before a scrub", pool.state(4), 0);
        pool.scrub(1);
        Due.is("one", pool.state(4), 1);
        pool.scrub(15);
        Due.is("the latest met none", pool.state(4), 0);
        pool.scrub(16);
        Due.is("one again", pool.state(4), 1);
        pool.write(0, 0, 1);
        Due.is("a write changes it not, though the stripe is right now", pool.state(4), 1);
        pool.scrub(16);
        Due.is("none", pool.state(4), 0);
    }

    private static void notRefused() {
        Due.sentence("that was not refused");
        RaidPool pool = Sample.filled();
        pool.spoil(4, 0, 1);
        pool.spoil(5, 0, 16);
        pool.scrub(2);
        Due.is("scrub(0)", pool.scrub(0), RaidPool.NONE);
        Due.is("one is bad", pool.state(4), 1);
        Due.is("scrub(17)", pool.scrub(17), RaidPool.NONE);
        Due.is("one is bad", pool.state(4), 1);
        pool.crash(0);
        pool.write(0, 8, 1);
        Due.is("scrub(3)", pool.scrub(3), RaidPool.DOWN);
        Due.is("one is bad", pool.state(4), 1);
        Due.is("next is 2", pool.state(5), 2);
    }

    private static void nextStripe() {
        Due.sentence("5: the stripe that scrub looks at next");
        RaidPool pool = new RaidPool();
        for (int i = 0; i < 40; i++) {
            Due.is("next", pool.state(5), i % 16);
            pool.scrub(1);
        }
    }

    private static void down() {
        Due.sentence("6: 1 if the pool is down");
        RaidPool pool = Sample.filled();
        Due.is("it is not", pool.state(6), 0);
        pool.crash(2);
        Due.is("set alone", pool.state(6), 0);
        pool.write(0, 0, 1);
        Due.is("it is", pool.state(6), 1);
        pool.recover();
        Due.is("it is not", pool.state(6), 0);
    }

    private static void waiting() {
        Due.sentence("7: how many wait");
        RaidPool pool = new RaidPool();
        pool.delay(6);
        for (int many = 0; many <= 6; many++) {
            Due.is("so many wait", pool.state(7), many);
            pool.write(0, many, 1);
        }
        Due.is("not more than six", pool.state(7), 6);
        pool.flush(5);
        Due.is("one", pool.state(7), 1);
        pool.flush(1);
        Due.is("none", pool.state(7), 0);
    }

    private static void disks() {
        Due.sentence("8 + d: 0, 1, 2 if disk d is good, failed, new");
        for (int disk = 0; disk < 6; disk++) {
            RaidPool pool = Sample.filled();
            Due.is("good", pool.state(8 + disk), 0);
            pool.change(disk, true);
            Due.is("failed", pool.state(8 + disk), 1);
            Due.is("the next one is good", pool.state(8 + (disk + 1) % 6), 0);
            pool.change(disk, false);
            Due.is("new", pool.state(8 + disk), 2);
            pool.rebuild(16);
            Due.is("good", pool.state(8 + disk), 0);
        }
    }

    private static void marks() {
        Due.sentence("16 + d: the mark of a new disk d");
        for (int disk = 0; disk < 6; disk++) {
            RaidPool pool = Sample.filled();
            Due.is("a good one has none", pool.state(16 + disk), -1);
            pool.change(disk, true);
            Due.is("a failed one has none", pool.state(16 + disk), -1);
            pool.change(disk, false);
            Due.is("at first", pool.state(16 + disk), 0);
            pool.rebuild(15);
            Due.is("at last", pool.state(16 + disk), 15);
            pool.rebuild(1);
            Due.is("a good one has none", pool.state(16 + disk), -1);
        }
    }

    private static void otherwise() {
        Due.sentence("else -1");
        RaidPool pool = Sample.without(0, 5);
        pool.change(0, false);
        pool.change(5, false);
        for (int what : new int[] {-1, -8, -16, 14, 15, 22, 23, 24, 30, 1000, Integer.MAX_VALUE, Integer.MIN_VALUE}) {
            Due.is("state(" + what + ")", pool.state(what), -1);
        }
        Due.is("state(21)", pool.state(21), 0);
        Due.is("state(13)", pool.state(13), 2);
    }

    private static void nothingChanges() {
        Due.sentence("Nothing is promised beyond the answers and state changes described above");
        RaidPool pool = Sample.filled();
        pool.snapshot(0);
        pool.snapshot(0);
        pool.write(2, 0, 1);
        pool.write(2, 1, 1);
        pool.write(1, 0, 1);
        pool.delay(3);
        pool.write(1, 7, 1);
        pool.write(1, 8, 1);
        pool.spoil(4, 0, 1);
        pool.spoil(5, 0, 16);
        pool.scrub(7);
        pool.change(1, true);
        pool.change(5, true);
        pool.change(5, false);
        pool.rebuild(5);
        pool.change(0, true);
        // Free: 64 - 20 - 3. Shared: all but block 0, which volume 0 has alone by now.
        int[] want = {41, 19, 3, 11, 1, 7, 0, 2, 1, 1, 0, 0, 0, 2, -1, -1, -1, -1, -1, -1, -1, 5, -1, -1};
        for (int round = 0; round < 2; round++) {
            for (int what = 0; what < want.length; what++) {
                Due.is("state(" + what + ")", pool.state(what), want[what]);
            }
        }
        pool.crash(0);
        pool.change(0, false);
        pool.rebuild(16);
        Due.is("flush(6)", pool.flush(6), 0);
        Due.is("while it is down", pool.state(0), 41);
        Due.is("while it is down", pool.state(8), 0);
    }
}
