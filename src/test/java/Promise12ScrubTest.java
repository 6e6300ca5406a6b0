/** Promise 12: scrub. */
final class Promise12ScrubTest {
    public static void main(String[] args) {
        everyByteIsMended();
        badOnes();
        likeAnotherByte();
        roundAndRound();
        missingBytes();
        numbers();
        Due.end();
    }

    private static void everyByteIsMended() {
        RaidPool pool = Sample.filled();
        RaidPool same = Sample.filled();
        for (int x : new int[] {1, 128, 255, 90}) {
            for (int disk = 0; disk < 6; disk++) {
                int stripe = (disk + x) % 5;
                pool.spoil(disk, stripe, x);
                Due.is("spoilt disk " + disk + " by " + x, pool.scrub(16), 1);
                Due.is("none is bad", pool.state(4), 0);
                for (int other = 0; other < 6; other++) {
                    Due.is("raw(" + other + ", " + stripe + ")",
                            pool.raw(other, stripe), same.raw(other, stripe));
                }
            }
        }
        for (int stripe = 0; stripe < 16; stripe++) {
            pool.spoil((stripe * 5 + 2) % 6, stripe, 17 + stripe);
        }
        Due.is("one in every stripe", pool.scrub(16), 16);
        Due.is("nothing is left", pool.scrub(16), 0);
    }

    private static void badOnes() {
        RaidPool pool = Sample.filled();
        pool.spoil(4, 0, 1);
        pool.spoil(5, 0, 16);
        pool.spoil(5, 1, 7);
        int p = pool.raw(4, 0);
        int q = pool.raw(5, 0);
        Due.is("P and Q: 2^4 is no data byte", pool.scrub(16), 1);
        Due.is("one is bad", pool.state(4), 1);
        Due.is("nothing changes: P", pool.raw(4, 0), p);
        Due.is("nothing changes: Q", pool.raw(5, 0), q);
        Due.is("only stripe 0", pool.scrub(1), 0);
        Due.is("one is bad", pool.state(4), 1);
        Due.is("the rest", pool.scrub(15), 0);
        Due.is("none of the latest is bad", pool.state(4), 0);
    }

    /** Two wrong bytes that look like a third one: that one is changed. */
    private static void likeAnotherByte() {
        for (int k = 0; k < 4; k++) {
            RaidPool pool = Sample.filled();
            int x = 201;
            pool.spoil(4, 0, x);
            pool.spoil(5, 0, Sample.product(1 << k, x));
            Due.is("scrub(1)", pool.scrub(1), 1);
            Due.is("data byte " + k, pool.raw(k, 0), Sample.value(k) ^ x);
            Due.is("it is right now", pool.scrub(16), 0);
            Due.is("none is bad", pool.state(4), 0);
        }
    }

    private static void roundAndRound() {
        RaidPool pool = Sample.filled();
        Due.is("scrub(10)", pool.scrub(10), 0);
        Due.is("next is 10", pool.state(5), 10);
        pool.spoil(0, 9, 1);
        pool.spoil(0, 3, 1);
        pool.spoil(0, 4, 1);
        pool.spoil(0, 15, 1);
        Due.is("10..15 and 0..3", pool.scrub(10), 2);
        Due.is("next is 4", pool.state(5), 4);
        Due.is("4", pool.scrub(1), 1);
        Due.is("5..9", pool.scrub(5), 1);
        Due.is("next is 10", pool.state(5), 10);
        Due.is("scrub(6)", pool.scrub(6), 0);
        Due.is("next is 0", pool.state(5), 0);
        Due.is("scrub(16)", pool.scrub(16), 0);
        Due.is("next is 0", pool.state(5), 0);
    }

    private static void missingBytes() {
        RaidPool pool = Sample.filled();
        pool.spoil(1, 1, 1);
        pool.spoil(1, 2, 1);
        pool.change(5, true);
        Due.is("not all bytes are there", pool.scrub(16), 0);
        Due.is("none is bad", pool.state(4), 0);
        Due.is("next is 0", pool.state(5), 0);
        Due.is("raw(1, 1)", pool.raw(1, 1), Sample.value(4) ^ 1);
        pool.change(5, false);
        pool.rebuild(1);
        pool.spoil(2, 0, 6);
        Due.is("all are there in stripe 0 alone", pool.scrub(16), 1);
        Due.is("raw(2, 0)", pool.raw(2, 0), Sample.value(2));
        Due.is("raw(1, 1)", pool.raw(1, 1), Sample.value(4) ^ 1);
    }

    private static void numbers() {
        RaidPool pool = Sample.filled();
        pool.spoil(4, 0, 1);
        pool.spoil(5, 0, 16);
        Due.is("scrub(2)", pool.scrub(2), 0);
        Due.is("one is bad", pool.state(4), 1);
        for (int n : new int[] {0, -1, 17, Integer.MAX_VALUE, Integer.MIN_VALUE}) {
            Due.is("scrub(" + n + ")", pool.scrub(n), RaidPool.NONE);
        }
        Due.is("a refused one does not count", pool.state(4), 1);
        Due.is("next is 2", pool.state(5), 2);
        pool.crash(0);
        pool.write(0, 8, 1);
        Due.is("down", pool.scrub(3), RaidPool.DOWN);
        Due.is("a refused one does not count", pool.state(4), 1);
        Due.is("next is 2", pool.state(5), 2);
    }
}
