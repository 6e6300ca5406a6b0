/** Promise 12: scrub. */
final class Promise12ScrubTest {
    public static void main(String[] args) {
        theNextN();
        fromZeroOnAndRound();
        allBytesAreThere();
        notRight();
        qIsZero();
        pIsZero();
        aDataByte();
        everyByteIsMended();
        bad();
        howManyWereChanged();
        anotherN();
        down();
        Due.end();
    }

    private static void theNextN() {
        Due.sentence("Looks at the next n (1..16) stripes");
        for (int n = 1; n <= 16; n++) {
            RaidPool pool = new RaidPool();
            for (int stripe = 0; stripe < 16; stripe++) {
                pool.spoil((stripe * 5 + 2) % 6, stripe, 17 + stripe);
            }
            Due.is("scrub(" + n + ")", pool.scrub(n), n);
            Due.is("next", pool.state(5), n % 16);
            Due.is("all", pool.scrub(16), 16 - n);
        }
    }

    private static void fromZeroOnAndRound() {
        Due.sentence("from stripe 0 on and round");
        RaidPool pool = Sample.filled();
        Due.is("next is 0", pool.state(5), 0);
        Due.is("scrub(10)", pool.scrub(10), 0);
        Due.is("next is 10", pool.state(5), 10);
        pool.spoil(0, 9, 1);
        pool.spoil(0, 3, 1);
        pool.spoil(0, 4, 1);
        pool.spoil(0, 15, 1);
        Due.is("10..15 and 0..3", pool.scrub(10), 2);
        Due.is("next is 4", pool.state(5), 4);
        Due.is("4", pool.scrub(1), 1);
        Due.is("5..9", pool.scrub(5), 1);
        Due.is("10..14", pool.scrub(5), 0);
        Due.is("next is 15", pool.state(5), 15);
        Due.is("15", pool.scrub(1), 0);
        Due.is("next is 0", pool.state(5), 0);
        Due.is("scrub(16)", pool.scrub(16), 0);
        Due.is("next is 0", pool.state(5), 0);
    }

    private static void allBytesAreThere() {
        Due.sentence("In each of which all bytes are there");
        for (int disk = 0; disk < 6; disk++) {
            RaidPool pool = Sample.filled();
            int other = (disk + 1) % 6;
            pool.spoil(other, 1, 1);
            pool.change(disk, true);
            Due.is("without " + disk, pool.scrub(16), 0);
            Due.is("none is bad", pool.state(4), 0);
            pool.scrub(3);
            Due.is("they are passed all the same", pool.state(5), 3);
        }
        RaidPool pool = Sample.filled();
        pool.spoil(1, 1, 1);
        pool.change(5, true);
        pool.change(5, false);
        pool.rebuild(1);
        pool.spoil(2, 0, 6);
        Due.is("all are there in stripe 0 alone", pool.scrub(16), 1);
        Due.is("raw(2, 0)", pool.raw(2, 0), Sample.value(2));
        Due.is("raw(1, 1)", pool.raw(1, 1), Sample.value(4) ^ 1);
    }

    private static void notRight() {
        Due.sentence("and which is not right");
        RaidPool pool = Sample.filled();
        int[] before = Sample.look(pool);
        Due.is("all are right", pool.scrub(16), 0);
        Due.is("none is bad", pool.state(4), 0);
        Due.unchanged("right", before, pool);
        pool.spoil(0, 0, 5);
        pool.spoil(4, 0, 5);
        pool.spoil(5, 0, 5);
        Due.is("other bytes, but right", pool.scrub(16), 0);
        Due.is("raw(0, 0)", pool.raw(0, 0), Sample.value(0) ^ 5);
    }

    private static void qIsZero() {
        Due.sentence("If q is 0, p is added to P");
        RaidPool pool = Sample.filled();
        pool.spoil(4, 0, 200);
        Due.is("scrub(1)", pool.scrub(1), 1);
        Due.is("raw(4, 0)", pool.raw(4, 0), Sample.p0(Sample.value(0)));
        pool.spoil(5, 1, 255);
        Due.is("the P of stripe 1", pool.scrub(1), 1);
        Due.is("raw(5, 1)", pool.raw(5, 1),
                Sample.p(Sample.value(4), Sample.value(5), Sample.value(6), Sample.value(7)));
    }

    private static void pIsZero() {
        Due.sentence("if p is 0, q to Q");
        RaidPool pool = Sample.filled();
        pool.spoil(5, 0, 200);
        Due.is("scrub(1)", pool.scrub(1), 1);
        Due.is("raw(5, 0)", pool.raw(5, 0), Sample.q0(Sample.value(0)));
        pool.spoil(1, 1, 7);
        pool.spoil(2, 1, 7);
        Due.is("two data bytes that P does not show", pool.scrub(1), 1);
        Due.is("raw(1, 1)", pool.raw(1, 1), Sample.value(4) ^ 7);
        Due.is("raw(0, 1)", pool.raw(0, 1), Sample.q(Sample.value(4) ^ 7, Sample.value(5) ^ 7,
                Sample.value(6), Sample.value(7)));
    }

    private static void aDataByte() {
        Due.sentence("if q is the product of 2^k and p for a k of 0..3, p to data byte k");
        for (int k = 0; k < 4; k++) {
            for (int x : new int[] {1, 32, 128, 201, 255}) {
                RaidPool pool = Sample.filled();
                pool.spoil(4, 0, x);
                pool.spoil(5, 0, Sample.product(1 << k, x));
                Due.is("scrub(1)", pool.scrub(1), 1);
                Due.is("data byte " + k, pool.raw(k, 0), Sample.value(k) ^ x);
                Due.is("P stays", pool.raw(4, 0), Sample.p0(Sample.value(0)) ^ x);
                Due.is("none is bad", pool.state(4), 0);
                Due.is("it is right now", pool.scrub(16), 0);
            }
        }
    }

    private static void everyByteIsMended() {
        Due.sentence("a search for bytes that went wrong");
        RaidPool pool = Sample.filled();
        RaidPool same = Sample.filled();
        for (int x : new int[] {1, 128, 255, 90}) {
            for (int disk = 0; disk < 6; disk++) {
                int stripe = (disk + x) % 5;
                pool.spoil(disk, stripe, x);
                Due.is("spoilt disk " + disk + " by " + x, pool.scrub(16), 1);
                for (int other = 0; other < 6; other++) {
                    Due.is("raw(" + other + ", " + stripe + ")",
                            pool.raw(other, stripe), same.raw(other, stripe));
                }
            }
        }
    }

    private static void bad() {
        Due.sentence("else it is BAD, and nothing changes");
        RaidPool pool = Sample.filled();
        pool.spoil(4, 0, 1);
        pool.spoil(5, 0, 16);
        pool.spoil(5, 1, 1);
        pool.spoil(0, 1, 3);
        int[] before = Sample.look(pool);
        Due.is("2^4 is no data byte, nor is 3", pool.scrub(16), 0);
        Due.is("two are bad", pool.state(4), 2);
        before[82 + 4] = 2;
        Due.unchanged("bad", before, pool);
        RaidPool all = new RaidPool();
        for (int stripe = 0; stripe < 16; stripe++) {
            all.spoil((stripe + 4) % 6, stripe, 1);
            all.spoil((stripe + 5) % 6, stripe, 3);
        }
        Due.is("all stripes", all.scrub(16), 0);
        Due.is("all are bad", all.state(4), 16);
    }

    private static void howManyWereChanged() {
        Due.sentence("Answers how many were changed");
        RaidPool pool = Sample.filled();
        Due.is("none", pool.scrub(16), 0);
        pool.spoil(0, 0, 1);
        pool.spoil(0, 2, 1);
        pool.spoil(1, 1, 1);
        pool.spoil(2, 1, 2);
        pool.spoil(0, 15, 1);
        Due.is("stripe 1 has two wrong data bytes: it is BAD", pool.scrub(2), 1);
        Due.is("2..15", pool.scrub(14), 2);
    }

    private static void anotherN() {
        Due.sentence("NONE");
        RaidPool pool = Sample.filled();
        pool.spoil(4, 0, 1);
        pool.spoil(5, 0, 16);
        pool.spoil(0, 2, 1);
        Due.is("scrub(2)", pool.scrub(2), 0);
        int[] before = Sample.look(pool);
        for (int n : Sample.outside(1, 16)) {
            Due.is("scrub(" + n + ")", pool.scrub(n), RaidPool.NONE);
        }
        Due.unchanged("NONE", before, pool);
    }

    private static void down() {
        Due.sentence("DOWN");
        RaidPool pool = Sample.filled();
        pool.spoil(4, 1, 1);
        pool.spoil(0, 1, 16);
        Due.is("scrub(2)", pool.scrub(2), 0);
        pool.crash(0);
        pool.write(0, 8, 1);
        pool.spoil(3, 2, 5);
        int[] before = Sample.look(pool);
        Due.is("scrub(3)", pool.scrub(3), RaidPool.DOWN);
        Due.is("scrub(17)", pool.scrub(17), RaidPool.DOWN);
        Due.unchanged("down", before, pool);
        pool.recover();
        Due.is("stripe 2", pool.scrub(1), 1);
    }
}
