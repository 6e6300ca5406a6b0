/** Promise 2: write, at once and with a delay. */
final class Promise02WriteTest {
    public static void main(String[] args) {
        theStripesAreRight();
        valuesAreCut();
        blocksAreChosen();
        fullPool();
        lostStripes();
        missingBytesAreLeftOut();
        wrongNumbers();
        delayedWritesWait();
        theOneWrittenLastIsLast();
        aFullQueueWritesItsFirst();
        aFullQueueThatCannot();
        Due.end();
    }

    private static void theStripesAreRight() {
        RaidPool pool = new RaidPool();
        int[] d = {101, 251, 207, 225};
        for (int k = 0; k < 4; k++) {
            pool.write(0, k, d[k]);
            pool.write(0, 4 + k, d[3 - k]);
        }
        // The lblocks alternate between the blocks: 0 4 1 5 2 6 3 7 are on the blocks 0..7.
        int[] s0 = {d[0], d[3], d[1], d[2]};
        int[] s1 = {d[2], d[1], d[3], d[0]};
        Due.stripe("stripe 0", pool, 0, s0[0], s0[1], s0[2], s0[3],
                Sample.p(s0[0], s0[1], s0[2], s0[3]), Sample.q(s0[0], s0[1], s0[2], s0[3]));
        Due.stripe("stripe 1", pool, 1, Sample.q(s1[0], s1[1], s1[2], s1[3]), s1[0], s1[1], s1[2], s1[3],
                Sample.p(s1[0], s1[1], s1[2], s1[3]));
        pool.write(0, 0, 90);
        Due.stripe("written again", pool, 0, 90, s0[1], s0[2], s0[3],
                Sample.p(90, s0[1], s0[2], s0[3]), Sample.q(90, s0[1], s0[2], s0[3]));
    }

    private static void valuesAreCut() {
        RaidPool pool = new RaidPool();
        Due.is("write(0, 0, 256 + 3)", pool.write(0, 0, 259), RaidPool.OK);
        Due.is("read(0, 0)", pool.read(0, 0), 3);
        Due.is("write(0, 1, -1)", pool.write(0, 1, -1), RaidPool.OK);
        Due.is("read(0, 1)", pool.read(0, 1), 255);
        pool.delay(2);
        Due.is("write(0, 2, -2)", pool.write(0, 2, -2), RaidPool.OK);
        Due.is("read(0, 2)", pool.read(0, 2), 254);
        Due.is("flush(1)", pool.flush(1), 1);
        Due.is("raw(2, 0)", pool.raw(2, 0), 254);
    }

    private static void blocksAreChosen() {
        RaidPool pool = Sample.filled();
        pool.trim(0, 7);
        pool.trim(0, 3);
        Due.is("snapshot(0)", pool.snapshot(0), 1);
        Due.is("a shared one goes to the least free block", pool.write(1, 5, 1), RaidPool.OK);
        Due.is("place(1, 5)", pool.place(1, 5), 3);
        Due.is("place(0, 5)", pool.place(0, 5), 5);
        Due.is("one alone stays", pool.write(0, 5, 2), RaidPool.OK);
        Due.is("place(0, 5)", pool.place(0, 5), 5);
        Due.is("an empty one goes to the least free block", pool.write(0, 7, 3), RaidPool.OK);
        Due.is("place(0, 7)", pool.place(0, 7), 7);
        Due.is("place(1, 7)", pool.place(1, 7), -1);
        Due.is("next", pool.write(1, 7, 4), RaidPool.OK);
        Due.is("place(1, 7)", pool.place(1, 7), 20);
        Due.is("read(1, 5)", pool.read(1, 5), 1);
        Due.is("read(0, 5)", pool.read(0, 5), 2);
        Due.is("read(0, 7)", pool.read(0, 7), 3);
        Due.is("read(1, 7)", pool.read(1, 7), 4);
    }

    private static void fullPool() {
        RaidPool pool = Sample.full();
        Due.is("a shared one", pool.write(3, 10, 1), RaidPool.FULL);
        Due.is("place(3, 10) is still shared", pool.place(3, 10), 10);
        Due.is("read(3, 10)", pool.read(3, 10), Sample.value(10));
        Due.is("one that needs no free block", pool.write(3, 0, 1), RaidPool.OK);
        Due.is("trim(1, 1)", pool.trim(1, 1), RaidPool.OK);
        Due.is("the last free one", pool.write(3, 10, 1), RaidPool.OK);
        Due.is("place(3, 10)", pool.place(3, 10), 21);
        Due.is("an empty one", pool.write(1, 1, 1), RaidPool.FULL);
        pool.change(0, true);
        pool.change(1, true);
        pool.change(2, true);
        Due.is("FULL though all is lost", pool.write(1, 1, 1), RaidPool.FULL);
        Due.is("NONE though it is full", pool.write(1, 20, 1), RaidPool.NONE);
    }

    private static void lostStripes() {
        RaidPool pool = Sample.filled();
        pool.change(0, true);
        pool.change(1, true);
        Due.is("two disks", pool.write(0, 0, 5), RaidPool.OK);
        pool.change(2, true);
        Due.is("the byte is not there", pool.write(0, 0, 6), RaidPool.LOST);
        Due.is("the byte is there", pool.write(0, 3, 6), RaidPool.LOST);
        Due.is("read(0, 3)", pool.read(0, 3), Sample.value(3));
        pool.trim(0, 3);
        Due.is("the least free block is in a lost stripe", pool.write(0, 3, 6), RaidPool.LOST);
        Due.is("it stays empty", pool.place(0, 3), -1);
        Due.is("free blocks", pool.state(0), 45);
    }

    private static void missingBytesAreLeftOut() {
        for (int a = 0; a < 6; a++) {
            for (int b = a; b < 6; b++) {
                RaidPool pool = Sample.filled();
                pool.change(a, true);
                pool.change(b, true);
                int[] d = {77, Sample.value(1), 178, Sample.value(3)};
                Due.is("write(0, 0, 77)", pool.write(0, 0, 77), RaidPool.OK);
                Due.is("write(0, 2, 178)", pool.write(0, 2, 178), RaidPool.OK);
                int[] want = {d[0], d[1], d[2], d[3],
                    Sample.p(d[0], d[1], d[2], d[3]), Sample.q(d[0], d[1], d[2], d[3])};
                want[a] = -1;
                want[b] = -1;
                Due.stripe("without " + a + " and " + b, pool, 0, want);
                for (int k = 0; k < 4; k++) {
                    Due.is("read(0, " + k + ") without " + a + " and " + b, pool.read(0, k), d[k]);
                }
            }
        }
    }

    private static void wrongNumbers() {
        RaidPool pool = new RaidPool();
        int[][] wrong = {{-1, 0}, {1, 0}, {5, 0}, {6, 0}, {0, -1}, {0, 20}, {Integer.MAX_VALUE, 0},
            {Integer.MIN_VALUE, 0}, {0, Integer.MAX_VALUE}, {0, Integer.MIN_VALUE}};
        for (int limit = 0; limit <= 1; limit++) {
            pool.delay(limit);
            for (int[] w : wrong) {
                Due.is("write(" + w[0] + ", " + w[1] + ", 1)", pool.write(w[0], w[1], 1), RaidPool.NONE);
            }
            Due.is("nothing waits", pool.state(7), 0);
            Due.is("free blocks", pool.state(0), 64);
        }
        Due.is("the last lblock", pool.write(0, 19, 1), RaidPool.OK);
    }

    private static void delayedWritesWait() {
        RaidPool pool = new RaidPool();
        pool.delay(3);
        Due.is("write(0, 4, 1)", pool.write(0, 4, 1), RaidPool.OK);
        Due.is("write(0, 5, 2)", pool.write(0, 5, 2), RaidPool.OK);
        Due.is("they wait", pool.state(7), 2);
        Due.is("no block is taken", pool.state(0), 64);
        Due.is("place(0, 4)", pool.place(0, 4), -1);
        Due.is("one for the same lblock", pool.write(0, 4, 3), RaidPool.OK);
        Due.is("still two wait", pool.state(7), 2);
        Due.is("read(0, 4)", pool.read(0, 4), 3);
        Due.is("a third", pool.write(0, 6, 4), RaidPool.OK);
        Due.is("the same lblock with a full queue", pool.write(0, 5, 9), RaidPool.OK);
        Due.is("none was written for that", pool.state(0), 64);
        Due.is("three wait", pool.state(7), 3);
    }

    private static void theOneWrittenLastIsLast() {
        RaidPool pool = new RaidPool();
        pool.delay(2);
        pool.write(0, 4, 1);
        pool.write(0, 5, 2);
        pool.write(0, 4, 3);
        Due.is("flush(1) writes the one for lblock 5", pool.flush(1), 1);
        Due.is("place(0, 5)", pool.place(0, 5), 0);
        Due.is("place(0, 4)", pool.place(0, 4), -1);
        Due.is("flush(1)", pool.flush(1), 1);
        Due.is("place(0, 4)", pool.place(0, 4), 1);
        Due.is("raw(1, 0)", pool.raw(1, 0), 3);
    }

    private static void aFullQueueWritesItsFirst() {
        RaidPool pool = new RaidPool();
        pool.delay(2);
        pool.write(0, 9, 1);
        pool.write(0, 8, 2);
        Due.is("a third", pool.write(0, 7, 3), RaidPool.OK);
        Due.is("two wait", pool.state(7), 2);
        Due.is("place(0, 9)", pool.place(0, 9), 0);
        Due.is("raw(0, 0)", pool.raw(0, 0), 1);
        Due.is("place(0, 8)", pool.place(0, 8), -1);
        Due.is("a fourth", pool.write(0, 9, 4), RaidPool.OK);
        Due.is("place(0, 8)", pool.place(0, 8), 1);
        Due.is("read(0, 9)", pool.read(0, 9), 4);
        Due.is("raw(0, 0)", pool.raw(0, 0), 1);
    }

    private static void aFullQueueThatCannot() {
        RaidPool pool = Sample.full();
        pool.delay(1);
        Due.is("a write that will be FULL waits", pool.write(3, 10, 1), RaidPool.OK);
        Due.is("the answer of the first", pool.write(3, 0, 2), RaidPool.FULL);
        Due.is("one waits", pool.state(7), 1);
        Due.is("read(3, 10)", pool.read(3, 10), 1);
        Due.is("the other does not wait", pool.read(3, 0), 150);
        Due.is("in place of the first: none is written", pool.write(3, 10, 5), RaidPool.OK);
        Due.is("read(3, 10)", pool.read(3, 10), 5);
        Due.is("NONE before the first is looked at", pool.write(3, 20, 2), RaidPool.NONE);
        pool.trim(0, 0);
        Due.is("now it goes", pool.write(3, 0, 2), RaidPool.OK);
        Due.is("place(3, 10)", pool.place(3, 10), 0);

        RaidPool lost = Sample.filled();
        lost.delay(2);
        lost.write(0, 0, 1);
        lost.write(0, 19, 2);
        lost.change(0, true);
        lost.change(1, true);
        lost.change(2, true);
        Due.is("LOST of the first", lost.write(0, 18, 3), RaidPool.LOST);
        Due.is("two wait", lost.state(7), 2);

        RaidPool crashed = Sample.filled();
        crashed.delay(2);
        crashed.write(0, 0, 1);
        crashed.write(0, 1, 2);
        crashed.crash(0);
        Due.is("DOWN of the first", crashed.write(0, 2, 3), RaidPool.DOWN);
        Due.is("all are lost", crashed.state(7), 0);
        crashed.recover();
        Due.is("the noted one is there", crashed.read(0, 0), 1);
        Due.is("read(0, 1)", crashed.read(0, 1), Sample.value(1));
        Due.is("read(0, 2)", crashed.read(0, 2), Sample.value(2));
    }
}
