/** Promise 10: rebuild. */
final class Promise10RebuildTest {
    public static void main(String[] args) {
        upToN();
        asLongAsSomeDiskIsNew();
        theLeastOfThem();
        theByteBecomesItsWorth();
        zeroIfLost();
        theMarkGoesUp();
        with16TheDiskIsGood();
        anotherN();
        down();
        Due.end();
    }

    private static void upToN() {
        Due.sentence("Up to n (1..16) times [..] How many bytes that were");
        for (int n = 1; n <= 16; n++) {
            RaidPool pool = Sample.without(3);
            pool.change(3, false);
            Due.is("rebuild(" + n + ")", pool.rebuild(n), n);
            Due.is("mark", pool.state(19), n == 16 ? -1 : n);
            Due.is("the rest", pool.rebuild(16), 16 - n);
        }
    }

    private static void asLongAsSomeDiskIsNew() {
        Due.sentence("as long as some disk is new");
        RaidPool pool = Sample.filled();
        Due.is("all are good", pool.rebuild(16), 0);
        pool.change(2, true);
        Due.is("a failed one is not new", pool.rebuild(16), 0);
        Due.is("disk 2", pool.state(10), 1);
        pool.change(2, false);
        pool.rebuild(13);
        Due.is("three are left", pool.rebuild(16), 3);
        Due.is("none is left", pool.rebuild(1), 0);
        pool.change(2, true);
        pool.change(3, true);
        pool.change(2, false);
        pool.rebuild(10);
        pool.change(3, false);
        Due.is("six of disk 2 and ten of disk 3", pool.rebuild(16), 16);
        Due.is("disk 2 is good", pool.state(10), 0);
        Due.is("mark of disk 3", pool.state(19), 10);
        Due.is("its rest", pool.rebuild(16), 6);
    }

    private static void theLeastOfThem() {
        Due.sentence("the byte of the least of them in the stripe of its mark");
        RaidPool pool = Sample.without(1, 4);
        pool.change(4, false);
        Due.is("rebuild(3)", pool.rebuild(3), 3);
        pool.change(1, false);
        Due.is("rebuild(2)", pool.rebuild(2), 2);
        Due.is("mark of disk 1", pool.state(17), 2);
        Due.is("mark of disk 4", pool.state(20), 3);
        Due.is("raw(1, 1)", pool.raw(1, 1), Sample.value(4));
        Due.is("raw(1, 2)", pool.raw(1, 2), -1);
        pool.write(0, 4, 99);
        Due.is("a write below the mark", pool.raw(1, 1), 99);
        Due.is("rebuild(14)", pool.rebuild(14), 14);
        Due.is("disk 1 is good", pool.state(9), 0);
        Due.is("mark of disk 4", pool.state(20), 3);
        Due.is("rebuild(16)", pool.rebuild(16), 13);
        Due.is("all is right", pool.scrub(16), 0);
        Due.is("nothing is bad", pool.state(4), 0);
    }

    private static void theByteBecomesItsWorth() {
        Due.sentence("becomes its worth");
        for (int a = 0; a < 6; a++) {
            for (int b = a + 1; b < 6; b++) {
                RaidPool pool = Sample.without(a, b);
                RaidPool same = Sample.filled();
                pool.change(b, false);
                Due.is("rebuild(16)", pool.rebuild(16), 16);
                pool.change(a, false);
                Due.is("rebuild(16)", pool.rebuild(16), 16);
                for (int i = 0; i < 96; i++) {
                    Due.is("raw(" + i / 16 + ", " + i % 16 + ") after " + a + " and " + b,
                            pool.raw(i / 16, i % 16), same.raw(i / 16, i % 16));
                }
            }
        }
        RaidPool pool = Sample.without(0);
        pool.spoil(4, 0, 9);
        pool.change(0, false);
        pool.rebuild(1);
        Due.is("a worth that a wrong P tells", pool.raw(0, 0), Sample.value(0) ^ 9);
    }

    private static void zeroIfLost() {
        Due.sentence("(0 if the stripe is lost)");
        RaidPool pool = Sample.without(0, 1, 4);
        pool.change(4, false);
        Due.is("lost stripes", pool.state(3), 16);
        Due.is("rebuild(1)", pool.rebuild(1), 1);
        Due.is("the P of stripe 0", pool.raw(4, 0), 0);
        Due.is("lost stripes", pool.state(3), 15);
        pool.change(0, false);
        Due.is("rebuild(2)", pool.rebuild(2), 2);
        int d0 = pool.raw(0, 0);
        int d1 = pool.read(0, 1);
        Due.is("P is 0 now", Sample.p(d0, d1, Sample.value(2), Sample.value(3)), 0);
        Due.is("Q as it was", Sample.q(d0, d1, Sample.value(2), Sample.value(3)), pool.raw(5, 0));
        Due.is("stripe 1 was lost", pool.raw(0, 1), 0);
        RaidPool all = Sample.without(0, 1, 2, 3, 4, 5);
        all.change(3, false);
        Due.is("without any disk", all.rebuild(16), 16);
        Due.is("raw(3, 0)", all.raw(3, 0), 0);
        Due.is("all stripes are lost still", all.state(3), 16);
    }

    private static void theMarkGoesUp() {
        Due.sentence("and the mark goes up");
        RaidPool pool = Sample.without(0);
        pool.change(0, false);
        for (int mark = 0; mark < 16; mark++) {
            Due.is("mark", pool.state(16), mark);
            Due.is("raw(0, " + mark + ")", pool.raw(0, mark), -1);
            Due.is("rebuild(1)", pool.rebuild(1), 1);
            Due.is("raw(0, " + mark + ") is there", pool.raw(0, mark) >= 0 ? 1 : 0, 1);
        }
        Due.is("it is good: no mark", pool.state(16), -1);
    }

    private static void with16TheDiskIsGood() {
        Due.sentence("with 16 the disk is good");
        RaidPool pool = Sample.without(5);
        pool.change(5, false);
        Due.is("rebuild(15)", pool.rebuild(15), 15);
        Due.is("with 15 it is new", pool.state(13), 2);
        Due.is("raw(5, 15)", pool.raw(5, 15), -1);
        Due.is("rebuild(1)", pool.rebuild(1), 1);
        Due.is("with 16 it is good", pool.state(13), 0);
        Due.is("no mark", pool.state(21), -1);
        Due.is("raw(5, 15)", pool.raw(5, 15), 0);
        Due.no("a good one does not become new", pool.change(5, false));
    }

    private static void anotherN() {
        Due.sentence("NONE for another n");
        RaidPool pool = Sample.without(2);
        pool.change(2, false);
        int[] before = Sample.look(pool);
        for (int n : Sample.outside(1, 16)) {
            Due.is("rebuild(" + n + ")", pool.rebuild(n), RaidPool.NONE);
        }
        Due.unchanged("NONE", before, pool);
        Due.is("with no new disk, too", new RaidPool().rebuild(0), RaidPool.NONE);
    }

    private static void down() {
        Due.sentence("DOWN");
        RaidPool pool = Sample.down(1);
        pool.change(2, true);
        pool.change(2, false);
        int[] before = Sample.look(pool);
        Due.is("rebuild(1)", pool.rebuild(1), RaidPool.DOWN);
        Due.is("rebuild(17)", pool.rebuild(17), RaidPool.DOWN);
        Due.unchanged("down", before, pool);
        pool.recover();
        Due.is("rebuild(1)", pool.rebuild(1), 1);
    }
}
