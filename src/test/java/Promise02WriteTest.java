/** Promise 2: write, at once (DELAY 0) and with a delay. */
final class Promise02WriteTest {
    public static void main(String[] args) {
        theStripesAreRight();
        missingBytesAreLeftOut();
        valuesAreCut();
        aBlockOfItsOwnStays();
        otherwiseTheLeastFree();
        noSuchVolumeOrLblock();
        fullPool();
        lostStripe();
        down();
        theCrashComes();
        Due.end();
    }

    private static void theStripesAreRight() {
        Due.sentence("WRITING a byte to a block puts it, and the P and Q that make the stripe right with it");
        RaidPool pool = new RaidPool();
        int[] d = {101, 251, 207, 225};
        for (int k = 0; k < 4; k++) {
            pool.write(0, k, d[k]);
            pool.write(0, 4 + k, d[3 - k]);
        }
        // The lblocks alternate between the blocks: 0 4 1 5 2 6 3 7 are on the blocks 0..7.
        int[] s0 = {d[0], d[3], d[1], d[2]};
        int[] s1 = {d[2], d[1], d[3], d[0]};
        Due.stripe("stripe 0", pool, 0, s0[0], s0[1], s0[2], s0[3],
                Sample.p(s0[0], s0[1], s0[2], s0[3]), Sample.q(s0[0], s0[1], s0[2], s0[3]));
        Due.stripe("stripe 1", pool, 1, Sample.q(s1[0], s1[1], s1[2], s1[3]), s1[0], s1[1], s1[2], s1[3],
                Sample.p(s1[0], s1[1], s1[2], s1[3]));
        pool.write(0, 0, 90);
        Due.stripe("written again", pool, 0, 90, s0[1], s0[2], s0[3],
                Sample.p(90, s0[1], s0[2], s0[3]), Sample.q(90, s0[1], s0[2], s0[3]));
        pool.spoil(4, 0, 5);
        pool.spoil(5, 0, 6);
        pool.spoil(2, 0, 7);
        pool.write(0, 0, 91);
        int c = s0[2] ^ 7;
        Due.stripe("after spoiling", pool, 0, 91, s0[1], c, s0[3],
                Sample.p(91, s0[1], c, s0[3]), Sample.q(91, s0[1], c, s0[3]));
    }

    private static void missingBytesAreLeftOut() {
        Due.sentence("and the worths of the other data bytes [..] what would go to a byte that is not there is left out");
        for (int a = 0; a < 6; a++) {
            for (int b = a; b < 6; b++) {
                RaidPool pool = Sample.filled();
                pool.change(a, true);
                pool.change(b, true);
                int[] d = {77, Sample.value(1), 178, Sample.value(3)};
                Due.is("write(0, 0, 77)", pool.write(0, 0, 77), RaidPool.OK);
                Due.is("write(0, 2, 178)", pool.write(0, 2, 178), RaidPool.OK);
                int[] want = {d[0], d[1], d[2], d[3],
                    Sample.p(d[0], d[1], d[2], d[3]), Sample.q(d[0], d[1], d[2], d[3])};
                want[a] = -1;
                want[b] = -1;
                Due.stripe("without " + a + " and " + b, pool, 0, want);
                for (int k = 0; k < 4; k++) {
                    Due.is("read(0, " + k + ") without " + a + " and " + b, pool.read(0, k), d[k]);
                }
            }
        }
    }

    private static void valuesAreCut() {
        Due.sentence("Writes value & 255 (DELAY 0)");
        RaidPool pool = new RaidPool();
        int[][] cut = {{0, 0}, {255, 255}, {256, 0}, {259, 3}, {-1, 255}, {-256, 0},
            {Integer.MAX_VALUE, 255}, {Integer.MIN_VALUE, 0}};
        for (int[] c : cut) {
            Due.is("write(0, 0, " + c[0] + ")", pool.write(0, 0, c[0]), RaidPool.OK);
            Due.is("read(0, 0)", pool.read(0, 0), c[1]);
            Due.is("raw(0, 0)", pool.raw(0, 0), c[1]);
            Due.is("the P of it", pool.raw(4, 0), c[1]);
        }
    }

    private static void aBlockOfItsOwnStays() {
        Due.sentence("if the lblock is on a block that is not shared to that one");
        RaidPool pool = Sample.filled();
        pool.trim(0, 0);
        Due.is("a free one before it does not count", pool.write(0, 5, 2), RaidPool.OK);
        Due.is("place(0, 5)", pool.place(0, 5), 5);
        Due.is("raw(2, 1)", pool.raw(2, 1), 2);
        pool.snapshot(0);
        pool.trim(1, 5);
        Due.is("shared before, but no more", pool.write(0, 5, 3), RaidPool.OK);
        Due.is("place(0, 5)", pool.place(0, 5), 5);
        Due.is("raw(2, 1)", pool.raw(2, 1), 3);
    }

    private static void otherwiseTheLeastFree() {
        Due.sentence("else to the least free one");
        RaidPool pool = Sample.filled();
        pool.trim(0, 7);
        pool.trim(0, 3);
        Due.is("snapshot(0)", pool.snapshot(0), 1);
        Due.is("a shared one", pool.write(1, 5, 1), RaidPool.OK);
        Due.is("place(1, 5)", pool.place(1, 5), 3);
        Due.is("the other stays", pool.place(0, 5), 5);
        Due.is("read(0, 5)", pool.read(0, 5), Sample.value(5));
        Due.is("an empty one", pool.write(0, 7, 3), RaidPool.OK);
        Due.is("place(0, 7)", pool.place(0, 7), 7);
        Due.is("the next free one comes after the used ones", pool.write(1, 7, 4), RaidPool.OK);
        Due.is("place(1, 7)", pool.place(1, 7), 20);
        Due.is("read(1, 5)", pool.read(1, 5), 1);
        Due.is("read(0, 7)", pool.read(0, 7), 3);
        Due.is("read(1, 7)", pool.read(1, 7), 4);
    }

    private static void noSuchVolumeOrLblock() {
        Due.sentence("NONE if there is no such volume or lblock");
        RaidPool pool = new RaidPool();
        for (int volume : Sample.outside(0, 5)) {
            Due.is("write(" + volume + ", 0, 1)", pool.write(volume, 0, 1), RaidPool.NONE);
        }
        for (int lblock : Sample.outside(0, 19)) {
            Due.is("write(0, " + lblock + ", 1)", pool.write(0, lblock, 1), RaidPool.NONE);
        }
        Due.is("a volume that is not there", pool.write(1, 0, 1), RaidPool.NONE);
        Due.is("no block is taken", pool.state(0), 64);
        Due.is("the last lblock", pool.write(0, 19, 1), RaidPool.OK);
        Due.is("the first one", pool.write(0, 0, 1), RaidPool.OK);
        RaidPool full = Sample.full();
        Due.is("NONE though it is full", full.write(1, 20, 1), RaidPool.NONE);
        Due.is("NONE though it is full", full.write(4, 0, 1), RaidPool.NONE);
    }

    private static void fullPool() {
        Due.sentence("FULL if a free one is needed and there is none");
        RaidPool pool = Sample.full();
        Due.is("a shared one", pool.write(3, 10, 1), RaidPool.FULL);
        Due.is("it is shared still", pool.place(3, 10), 10);
        Due.is("read(3, 10)", pool.read(3, 10), Sample.value(10));
        Due.is("one that needs none", pool.write(3, 0, 1), RaidPool.OK);
        Due.is("trim(1, 1)", pool.trim(1, 1), RaidPool.OK);
        Due.is("the last free one", pool.write(3, 10, 1), RaidPool.OK);
        Due.is("place(3, 10)", pool.place(3, 10), 21);
        Due.is("an empty one", pool.write(1, 1, 1), RaidPool.FULL);
        Due.is("it is empty still", pool.place(1, 1), -1);
        pool.change(0, true);
        pool.change(1, true);
        pool.change(2, true);
        Due.is("FULL though all stripes are lost: it has none", pool.write(1, 1, 1), RaidPool.FULL);
    }

    private static void lostStripe() {
        Due.sentence("LOST if its stripe is lost");
        RaidPool pool = Sample.without(0, 1);
        Due.is("two disks", pool.write(0, 0, 5), RaidPool.OK);
        pool.change(2, true);
        int[] before = Sample.look(pool);
        Due.is("the byte is not there", pool.write(0, 0, 6), RaidPool.LOST);
        Due.is("the byte is there", pool.write(0, 3, 6), RaidPool.LOST);
        Due.unchanged("LOST", before, pool);
        pool.trim(0, 3);
        Due.is("the least free block is in a lost stripe", pool.write(0, 3, 6), RaidPool.LOST);
        Due.is("it stays empty", pool.place(0, 3), -1);
        Due.is("free blocks", pool.state(0), 45);
        pool.change(2, false);
        pool.rebuild(1);
        Due.is("stripe 0 is lost no more", pool.write(0, 3, 6), RaidPool.OK);
        Due.is("stripe 1 is", pool.write(0, 4, 6), RaidPool.LOST);
    }

    private static void down() {
        Due.sentence("DOWN");
        RaidPool pool = Sample.down(0);
        int[] before = Sample.look(pool);
        Due.is("write", pool.write(0, 5, 1), RaidPool.DOWN);
        Due.is("the same one again", pool.write(0, 0, 251), RaidPool.DOWN);
        Due.unchanged("down", before, pool);
        pool.recover();
        Due.is("what was noted first", pool.read(0, 0), 250);
        Due.is("write", pool.write(0, 5, 1), RaidPool.OK);
    }

    private static void theCrashComes() {
        Due.sentence("(also if the crash that was set comes: it is set no more)");
        RaidPool pool = Sample.filled();
        pool.crash(2);
        Due.is("write", pool.write(0, 5, 1), RaidPool.DOWN);
        Due.is("down", pool.state(6), 1);
        pool.recover();
        Due.is("the next one", pool.write(0, 5, 2), RaidPool.OK);
        Due.is("read(0, 5)", pool.read(0, 5), 2);
        Due.is("one that needs a block", pool.snapshot(0), 1);
        Due.is("write(1, 5, 3)", pool.write(1, 5, 3), RaidPool.OK);
        Due.is("not down", pool.state(6), 0);
    }
}
