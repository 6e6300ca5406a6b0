/** Promise 5: read. */
final class Promise05ReadTest {
    public static void main(String[] args) {
        worthsWithTwoDisksLost();
        worthsThatAreZero();
        worthsRestOnWhatTheyShould();
        lostStripes();
        waitingAndEmpty();
        wrongNumbers();
        Due.end();
    }

    private static void worthsWithTwoDisksLost() {
        for (int a = 0; a < 6; a++) {
            for (int b = a; b < 6; b++) {
                RaidPool pool = Sample.filled();
                pool.change(a, true);
                pool.change(b, true);
                for (int lblock = 0; lblock < 20; lblock++) {
                    Due.is("read(0, " + lblock + ") without " + a + " and " + b,
                            pool.read(0, lblock), Sample.value(lblock));
                }
            }
        }
    }

    private static void worthsThatAreZero() {
        for (int zero = 0; zero < 4; zero++) {
            for (int other = 0; other < 6; other++) {
                RaidPool pool = Sample.filled();
                pool.write(0, zero, 0);
                pool.change(zero, true);
                pool.change(other, true);
                for (int k = 0; k < 4; k++) {
                    Due.is("read(0, " + k + ") without " + zero + " and " + other,
                            pool.read(0, k), k == zero ? 0 : Sample.value(k));
                }
            }
        }
    }

    /** A spoilt P or Q shows which of the two a worth was made from. */
    private static void worthsRestOnWhatTheyShould() {
        RaidPool pool = Sample.filled();
        pool.spoil(5, 0, 99);
        pool.change(1, true);
        Due.is("P is enough for one data byte", pool.read(0, 1), Sample.value(1));
        pool.spoil(4, 0, 3);
        Due.is("with a wrong P it is wrong by as much", pool.read(0, 1), Sample.value(1) ^ 3);
        pool.spoil(5, 0, 99);
        pool.change(4, true);
        Due.is("without P it is Q", pool.read(0, 1), Sample.value(1));
        pool.spoil(5, 0, Sample.product(2, 40));
        Due.is("with a wrong Q it is wrong by half as much", pool.read(0, 1), Sample.value(1) ^ 40);

        RaidPool two = Sample.filled();
        two.change(1, true);
        two.change(3, true);
        int x = 201;
        int y = 14;
        two.spoil(4, 0, x ^ y);
        two.spoil(5, 0, Sample.product(2, x) ^ Sample.product(8, y));
        Due.is("two make both right: data byte 1", two.read(0, 1), Sample.value(1) ^ x);
        Due.is("two make both right: data byte 3", two.read(0, 3), Sample.value(3) ^ y);
    }

    private static void lostStripes() {
        RaidPool pool = Sample.filled();
        pool.change(0, true);
        pool.change(4, true);
        pool.change(5, true);
        Due.is("not there", pool.read(0, 0), RaidPool.LOST);
        Due.is("there", pool.read(0, 1), Sample.value(1));
        pool.write(0, 1, 1);
        Due.is("still there", pool.read(0, 1), Sample.value(1));
        pool.change(5, false);
        pool.rebuild(1);
        Due.is("Q is 0 now, and data byte 0 is what makes that right", pool.read(0, 0),
                Sample.q(0, Sample.value(1), Sample.value(2), Sample.value(3)));
        Due.is("stripe 1 is still lost: data byte 3 is on disk 4", pool.read(0, 7), RaidPool.LOST);
        Due.is("data byte 0 of it is on disk 1", pool.read(0, 4), Sample.value(4));
    }

    private static void waitingAndEmpty() {
        RaidPool pool = Sample.filled();
        pool.delay(2);
        pool.write(0, 0, 1);
        Due.is("what waits", pool.read(0, 0), 1);
        pool.change(0, true);
        pool.change(4, true);
        pool.change(5, true);
        Due.is("what waits, though the stripe is lost", pool.read(0, 0), 1);
        pool.trim(0, 0);
        Due.is("empty", pool.read(0, 0), 0);
        pool.write(0, 0, 0);
        Due.is("a zero that waits", pool.read(0, 0), 0);
    }

    private static void wrongNumbers() {
        RaidPool pool = Sample.filled();
        Due.is("read(1, 0)", pool.read(1, 0), RaidPool.NONE);
        Due.is("read(-1, 0)", pool.read(-1, 0), RaidPool.NONE);
        Due.is("read(6, 0)", pool.read(6, 0), RaidPool.NONE);
        Due.is("read(0, -1)", pool.read(0, -1), RaidPool.NONE);
        Due.is("read(0, 20)", pool.read(0, 20), RaidPool.NONE);
        Due.is("read(0, 19)", pool.read(0, 19), Sample.value(19));
        Due.is("read(min, max)", pool.read(Integer.MIN_VALUE, Integer.MAX_VALUE), RaidPool.NONE);
        pool.crash(0);
        pool.write(0, 0, 1);
        Due.is("down", pool.read(0, 5), RaidPool.DOWN);
    }
}
