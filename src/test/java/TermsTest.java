/** "What it is" and "Terms": the boundary cases that belong to no single promise. */
final class TermsTest {
    public static void main(String[] args) {
        all512CallsAreAnswered();
        disksAndStripes();
        disksOfAStripe();
        blocksOfThePool();
        doubling();
        productsOfPowers();
        failedDisks();
        newDisks();
        lostStripes();
        worthOfAByteThatIsThere();
        worthByP();
        worthByQ();
        worthOfTheBytesAsTheyAre();
        worthOfTwo();
        worthOfPAndQ();
        volumesAndLblocks();
        sharedBlocks();
        freeBlocks();
        Due.end();
    }

    private static void all512CallsAreAnswered() {
        Due.sentence("An object is used for at most 512 calls after it has been made");
        RaidPool pool = new RaidPool();
        for (int call = 1; call <= 510; call++) {
            Due.is("call " + call, pool.write(0, call % 20, call), RaidPool.OK);
        }
        Due.is("call 511", pool.state(0), 44);
        Due.is("call 512", pool.read(0, 10), 510 & 255);
    }

    private static void disksAndStripes() {
        Due.sentence("DISKS 0..5 have a byte (0..255) in each of the STRIPES 0..15.");
        RaidPool pool = new RaidPool();
        for (int i = 0; i < 96; i++) {
            Due.yes("spoil", pool.spoil(i / 16, i % 16, 255 - i));
        }
        for (int i = 0; i < 96; i++) {
            Due.is("raw(" + i / 16 + ", " + i % 16 + ")", pool.raw(i / 16, i % 16), 255 - i);
        }
        Due.yes("255 + 1", pool.spoil(0, 0, 256));
        Due.is("raw(0, 0)", pool.raw(0, 0), 255);
        Due.is("raw(6, 0)", pool.raw(6, 0), -1);
        Due.is("raw(0, 16)", pool.raw(0, 16), -1);
    }

    private static void disksOfAStripe() {
        Due.sentence("In stripe s the disks (s + 4) mod 6 and (s + 5) mod 6 carry its P and its Q, the others "
                + "from disk s mod 6 on, in ascending order and round from 5 to 0, its DATA bytes 0..3");
        RaidPool pool = Sample.full();
        for (int s = 0; s < 16; s++) {
            int a = Sample.fullValue(4 * s);
            int b = Sample.fullValue(4 * s + 1);
            int c = Sample.fullValue(4 * s + 2);
            int d = Sample.fullValue(4 * s + 3);
            int[] turned = {a, b, c, d, Sample.p(a, b, c, d), Sample.q(a, b, c, d)};
            int[] want = new int[6];
            for (int i = 0; i < 6; i++) {
                want[(s + i) % 6] = turned[i];
            }
            Due.stripe("stripe " + s, pool, s, want);
        }
    }

    private static void blocksOfThePool() {
        Due.sentence("BLOCK b of the POOL, 0..63, is data byte b mod 4 of stripe b / 4 (cut).");
        RaidPool pool = Sample.full();
        Due.is("block 0", pool.raw(0, 0), Sample.fullValue(0));
        Due.is("block 3, the last of stripe 0", pool.raw(3, 0), Sample.fullValue(3));
        Due.is("block 4, the first of stripe 1", pool.raw(1, 1), Sample.fullValue(4));
        Due.is("block 59, the last of stripe 14", pool.raw(5, 14), Sample.fullValue(59));
        Due.is("block 60, the first of stripe 15", pool.raw(3, 15), Sample.fullValue(60));
        Due.is("block 63", pool.raw(0, 15), Sample.fullValue(63));
        Due.is("it is the last lblock that was written", pool.place(3, 3), 63);
    }

    private static void doubling() {
        Due.sentence("double(x) is 2 x if that is below 256, else (2 x) exclusive or 285");
        for (int half = 0; half < 2; half++) {
            RaidPool pool = new RaidPool();
            pool.write(0, 0, 0);
            for (int x = 128 * half; x < 128 * half + 128; x++) {
                pool.write(0, 1, x);
                Due.is("Q of a data byte 1 of " + x, pool.raw(5, 0), half == 0 ? 2 * x : 2 * x ^ 285);
            }
        }
    }

    private static void productsOfPowers() {
        Due.sentence("the product of 2^k and x is x doubled k times");
        int[] doubled = {200, 141, 7, 14};
        for (int k = 0; k < 4; k++) {
            RaidPool pool = new RaidPool();
            for (int i = 0; i < 4; i++) {
                pool.write(0, i, i == k ? 200 : 0);
            }
            Due.is("Q of a data byte " + k + " of 200", pool.raw(5, 0), doubled[k]);
        }
    }

    private static void failedDisks() {
        Due.sentence("FAILED (none of its bytes is THERE)");
        RaidPool pool = Sample.without(2);
        for (int stripe = 0; stripe < 16; stripe++) {
            Due.is("raw(2, " + stripe + ")", pool.raw(2, stripe), -1);
            Due.is("raw(3, " + stripe + ") is there", pool.raw(3, stripe) >= 0 ? 1 : 0, 1);
        }
    }

    private static void newDisks() {
        Due.sentence("NEW (its bytes are there in the stripes below its MARK)");
        for (int mark = 0; mark < 16; mark++) {
            RaidPool pool = Sample.without(2);
            pool.change(2, false);
            if (mark > 0) {
                pool.rebuild(mark);
            }
            Due.is("mark", pool.state(18), mark);
            for (int stripe = 0; stripe < 16; stripe++) {
                boolean there = pool.raw(2, stripe) >= 0;
                Due.is("mark " + mark + ": stripe " + stripe + " is there", there ? 1 : 0, stripe < mark ? 1 : 0);
            }
        }
    }

    private static void lostStripes() {
        Due.sentence("A stripe is LOST as long as more than two of its bytes are not there.");
        RaidPool pool = Sample.without(0);
        Due.is("one is not there", pool.state(3), 0);
        pool.change(1, true);
        Due.is("two are not there", pool.state(3), 0);
        Due.is("read(0, 0)", pool.read(0, 0), Sample.value(0));
        pool.change(2, true);
        Due.is("three are not there", pool.state(3), 16);
        Due.is("read(0, 0)", pool.read(0, 0), RaidPool.LOST);
        pool.change(0, false);
        Due.is("a new disk has none", pool.state(3), 16);
        pool.rebuild(1);
        Due.is("two are not there in stripe 0", pool.state(3), 15);
        Due.is("write(0, 0, 1)", pool.write(0, 0, 1), RaidPool.OK);
        Due.is("read(0, 1)", pool.read(0, 1) >= 0 ? 1 : 0, 1);
        Due.is("stripe 1 is lost still: data byte 1 is on disk 2", pool.read(0, 5), RaidPool.LOST);
    }

    private static void worthOfAByteThatIsThere() {
        Due.sentence("The WORTH of a data byte is that byte if it is there");
        RaidPool pool = Sample.filled();
        pool.spoil(1, 0, 77);
        Due.is("though it is not what makes P and Q right", pool.read(0, 1), Sample.value(1) ^ 77);
        pool.change(0, true);
        pool.change(2, true);
        Due.is("with two others away", pool.read(0, 1), Sample.value(1) ^ 77);
        pool.change(3, true);
        Due.is("in a lost stripe", pool.read(0, 1), Sample.value(1) ^ 77);
    }

    private static void worthByP() {
        Due.sentence("if it is the only data byte that is not there, what makes P right");
        for (int k = 0; k < 4; k++) {
            RaidPool pool = Sample.filled();
            pool.spoil(5, 0, 99);
            pool.change(k, true);
            Due.is("a wrong Q does not count: " + k, pool.read(0, k), Sample.value(k));
            pool.spoil(4, 0, 3);
            Due.is("a wrong P does: " + k, pool.read(0, k), Sample.value(k) ^ 3);
            pool.change(5, true);
            Due.is("without Q it is the same: " + k, pool.read(0, k), Sample.value(k) ^ 3);
        }
    }

    private static void worthByQ() {
        Due.sentence("or if P is not there what makes Q right");
        for (int k = 0; k < 4; k++) {
            RaidPool pool = Sample.without(k, 4);
            Due.is("without P and " + k, pool.read(0, k), Sample.value(k));
            for (int x : new int[] {1, 40, 128, 255}) {
                pool.spoil(5, 0, Sample.product(1 << k, x));
                Due.is("Q is wrong by the product of " + x, pool.read(0, k), Sample.value(k) ^ x);
                pool.spoil(5, 0, Sample.product(1 << k, x));
            }
        }
        RaidPool pool = Sample.without(1, 4);
        for (int end = 0; end < 256; end += 255) {
            pool.write(0, 1, end);
            Due.is("the least and the greatest byte", pool.read(0, 1), end);
        }
    }

    private static void worthOfTheBytesAsTheyAre() {
        Due.sentence("(of the data bytes as they are there)");
        RaidPool pool = Sample.filled();
        pool.spoil(0, 0, 6);
        pool.change(1, true);
        Due.is("by P", pool.read(0, 1), Sample.value(1) ^ 6);
        pool.change(4, true);
        Due.is("by Q: 2 times 3 is 6", pool.read(0, 1), Sample.value(1) ^ 3);
    }

    private static void worthOfTwo() {
        Due.sentence("if two are not there what makes both right");
        int x = 201;
        int y = 14;
        for (int a = 0; a < 4; a++) {
            for (int b = a + 1; b < 4; b++) {
                RaidPool pool = Sample.without(a, b);
                pool.spoil(4, 0, x ^ y);
                pool.spoil(5, 0, Sample.product(1 << a, x) ^ Sample.product(1 << b, y));
                Due.is("without " + a + " and " + b, pool.read(0, a), Sample.value(a) ^ x);
                Due.is("without " + a + " and " + b, pool.read(0, b), Sample.value(b) ^ y);
                for (int end = 0; end < 256; end += 255) {
                    pool.write(0, a, end);
                    pool.write(0, b, 255 - end);
                    Due.is("the least and the greatest byte", pool.read(0, a), end);
                    Due.is("the least and the greatest byte", pool.read(0, b), 255 - end);
                }
            }
        }
    }

    private static void worthOfPAndQ() {
        Due.sentence("The worth of P and Q is that byte if it is there, else what makes it right with the worths "
                + "of the data bytes.");
        RaidPool pool = Sample.filled();
        pool.spoil(0, 0, 6);
        pool.change(4, true);
        pool.change(5, true);
        pool.change(4, false);
        pool.rebuild(16);
        Due.is("P, of the bytes as they are", pool.raw(4, 0), Sample.p0(Sample.value(0) ^ 6));
        pool.spoil(4, 0, 9);
        pool.change(5, false);
        pool.rebuild(16);
        Due.is("Q, of the bytes as they are", pool.raw(5, 0), Sample.q0(Sample.value(0) ^ 6));
        Due.is("P is there, so it stays", pool.raw(4, 0), Sample.p0(Sample.value(0) ^ 6) ^ 9);
        pool.change(1, true);
        pool.change(5, true);
        pool.change(5, false);
        pool.rebuild(16);
        int one = Sample.value(1) ^ 9;
        Due.is("Q, with a worth that comes from P", pool.raw(5, 0),
                Sample.q(Sample.value(0) ^ 6, one, Sample.value(2), Sample.value(3)));
    }

    private static void volumesAndLblocks() {
        Due.sentence("VOLUMES 0..5 are there or not (volume 0 at first); each has LBLOCKS 0..19");
        RaidPool pool = new RaidPool();
        Due.is("lblock 19 of volume 0", pool.write(0, 19, 3), RaidPool.OK);
        Due.is("volume 5 is not there", pool.write(5, 19, 3), RaidPool.NONE);
        for (int volume = 1; volume <= 5; volume++) {
            Due.is("volume " + volume + " is not there", pool.read(volume, 0), RaidPool.NONE);
            Due.is("snapshot(0)", pool.snapshot(0), volume);
            Due.is("volume " + volume + " is there", pool.read(volume, 0), 0);
        }
        Due.is("lblock 19 of volume 5", pool.write(5, 19, 4), RaidPool.OK);
        Due.is("lblock 0 of volume 5", pool.write(5, 0, 5), RaidPool.OK);
        Due.is("read(5, 19)", pool.read(5, 19), 4);
        Due.is("lblock 19 of volume 4 is another", pool.read(4, 19), 3);
        Due.is("volume 6", pool.read(6, 0), RaidPool.NONE);
        Due.is("lblock 20", pool.read(4, 20), RaidPool.NONE);
    }

    private static void sharedBlocks() {
        Due.sentence("several may be on one, which is then SHARED");
        RaidPool pool = new RaidPool();
        pool.write(0, 0, 1);
        Due.is("one lblock on it", pool.state(1), 0);
        pool.snapshot(0);
        Due.is("two", pool.state(1), 1);
        pool.snapshot(1);
        Due.is("three", pool.state(1), 1);
        pool.write(0, 0, 2);
        Due.is("one of three goes elsewhere", pool.place(0, 0), 1);
        Due.is("two", pool.state(1), 1);
        pool.write(1, 0, 3);
        Due.is("one of two goes elsewhere", pool.place(1, 0), 2);
        Due.is("one", pool.state(1), 0);
        pool.write(2, 0, 4);
        Due.is("the one that is left stays", pool.place(2, 0), 0);
    }

    private static void freeBlocks() {
        Due.sentence("A block is FREE if no lblock is on it.");
        RaidPool pool = new RaidPool();
        Due.is("all", pool.state(0), 64);
        pool.write(0, 0, 1);
        Due.is("all but one", pool.state(0), 63);
        pool.snapshot(0);
        pool.trim(0, 0);
        Due.is("the other lblock is on it still", pool.state(0), 63);
        pool.trim(1, 0);
        Due.is("all, though the byte is on its disk still", pool.state(0), 64);
        Due.is("raw(0, 0)", pool.raw(0, 0), 1);
        pool.delay(1);
        pool.write(0, 0, 2);
        Due.is("one that waits is on none", pool.state(0), 64);
        pool.crash(2);
        Due.is("flush(1)", pool.flush(1), 0);
        Due.is("nor is one that is noted alone", pool.state(0), 64);
        pool.recover();
        Due.is("now it is", pool.state(0), 63);
    }
}
