/** Promise 14: recover. */
final class Promise14RecoverTest {
    public static void main(String[] args) {
        Due.no("it was not down", new RaidPool().recover());
        theLblockIsOnTheBlock();
        sharedBlocks();
        bytesThatAreThereThen();
        theNoteStands();
        Due.end();
    }

    private static void theLblockIsOnTheBlock() {
        RaidPool pool = new RaidPool();
        pool.crash(2);
        Due.is("write", pool.write(0, 6, 55), RaidPool.DOWN);
        Due.is("not on a block yet", pool.place(0, 6), -1);
        Due.is("free blocks", pool.state(0), 64);
        Due.yes("recover()", pool.recover());
        Due.is("place(0, 6)", pool.place(0, 6), 0);
        Due.is("free blocks", pool.state(0), 63);
        Due.is("read(0, 6)", pool.read(0, 6), 55);
        Due.is("not down", pool.state(6), 0);
        Due.no("recover() again", pool.recover());
        Due.is("the next one goes elsewhere", pool.write(0, 7, 1), RaidPool.OK);
        Due.is("place(0, 7)", pool.place(0, 7), 1);
    }

    private static void sharedBlocks() {
        RaidPool pool = Sample.filled();
        pool.snapshot(0);
        pool.crash(0);
        Due.is("write", pool.write(1, 2, 9), RaidPool.DOWN);
        Due.is("place(1, 2)", pool.place(1, 2), 2);
        Due.is("shared blocks", pool.state(1), 20);
        Due.yes("recover()", pool.recover());
        Due.is("place(1, 2)", pool.place(1, 2), 20);
        Due.is("place(0, 2)", pool.place(0, 2), 2);
        Due.is("shared blocks", pool.state(1), 19);
        Due.is("read(1, 2)", pool.read(1, 2), 9);
        Due.is("read(0, 2)", pool.read(0, 2), Sample.value(2));
    }

    private static void bytesThatAreThereThen() {
        RaidPool pool = Sample.filled();
        pool.crash(0);
        pool.write(0, 0, 9);
        pool.change(0, true);
        pool.change(4, true);
        Due.yes("recover()", pool.recover());
        Due.is("made from Q, which was put", pool.read(0, 0), 9);
        Due.is("raw(0, 0)", pool.raw(0, 0), -1);
        pool.change(0, false);
        pool.change(4, false);
        pool.rebuild(16);
        pool.rebuild(16);
        Due.is("raw(0, 0)", pool.raw(0, 0), 9);
        Due.is("all is right", pool.scrub(16), 0);
        Due.is("none is bad", pool.state(4), 0);

        RaidPool lost = Sample.filled();
        lost.crash(0);
        lost.write(0, 0, 9);
        lost.change(1, true);
        lost.change(2, true);
        lost.change(3, true);
        Due.yes("recover(), though the stripe is lost", lost.recover());
        Due.is("raw(0, 0)", lost.raw(0, 0), 9);
        Due.is("read(0, 0)", lost.read(0, 0), 9);
        Due.is("read(0, 1)", lost.read(0, 1), RaidPool.LOST);
        Due.is("raw(4, 0)", lost.raw(4, 0),
                Sample.p(9, Sample.value(1), Sample.value(2), Sample.value(3)));
    }

    /** The bytes of the note are put, not new ones that rest on what changed meanwhile. */
    private static void theNoteStands() {
        RaidPool pool = Sample.filled();
        pool.crash(1);
        pool.write(0, 0, 9);
        pool.spoil(0, 0, 70);
        pool.spoil(1, 0, 71);
        pool.spoil(4, 0, 72);
        pool.spoil(5, 0, 73);
        Due.yes("recover()", pool.recover());
        int a = Sample.value(1);
        int b = Sample.value(2);
        int c = Sample.value(3);
        Due.stripe("recovered", pool, 0, 9, a ^ 71, b, c, Sample.p(9, a, b, c), Sample.q(9, a, b, c));
        Due.is("scrub finds the one outside the note", pool.scrub(1), 1);
        Due.is("raw(1, 0)", pool.raw(1, 0), a);
    }
}
