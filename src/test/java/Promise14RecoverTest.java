/** Promise 14: recover. */
final class Promise14RecoverTest {
    public static void main(String[] args) {
        downNoMore();
        itWasNotDown();
        allThreeBytes();
        whereTheyAreThereThen();
        inALostStripe();
        onANewDisk();
        theNoteStands();
        theLblockIsOnTheBlock();
        aSharedBlock();
        Due.end();
    }

    private static void downNoMore() {
        Due.sentence("The pool is down no more, as said: true");
        RaidPool pool = Sample.down(1);
        Due.is("down", pool.state(6), 1);
        Due.yes("recover()", pool.recover());
        Due.is("not down", pool.state(6), 0);
        Due.is("read(0, 0)", pool.read(0, 0), 250);
        Due.is("write(0, 0, 1)", pool.write(0, 0, 1), RaidPool.OK);
        pool.crash(0);
        Due.is("write(0, 7, 2)", pool.write(0, 7, 2), RaidPool.DOWN);
        Due.yes("a second time", pool.recover());
        Due.is("read(0, 7)", pool.read(0, 7), 2);
        Due.is("the first note is not put again", pool.read(0, 0), 1);
    }

    private static void itWasNotDown() {
        Due.sentence("false if it was not down");
        Due.no("a new object", new RaidPool().recover());
        RaidPool pool = Sample.down(1);
        pool.recover();
        pool.write(0, 0, 1);
        pool.spoil(0, 0, 9);
        int[] before = Sample.look(pool);
        Due.no("recover() again", pool.recover());
        Due.unchanged("not down", before, pool);
        pool.crash(1);
        Due.no("a crash that is set alone", pool.recover());
        Due.is("it is set still", pool.write(0, 0, 2), RaidPool.DOWN);
    }

    private static void allThreeBytes() {
        Due.sentence("all three bytes of the note are put again");
        for (int after = 0; after < 3; after++) {
            RaidPool pool = Sample.down(after);
            pool.recover();
            Due.stripe("recovered after " + after, pool, 0, 250, Sample.value(1), Sample.value(2), Sample.value(3),
                    Sample.p0(250), Sample.q0(250));
        }
    }

    private static void whereTheyAreThereThen() {
        Due.sentence("(where they are there then)");
        RaidPool pool = Sample.down(0);
        pool.change(0, true);
        pool.change(4, true);
        Due.yes("recover()", pool.recover());
        Due.is("raw(0, 0)", pool.raw(0, 0), -1);
        Due.is("raw(4, 0)", pool.raw(4, 0), -1);
        Due.is("raw(5, 0)", pool.raw(5, 0), Sample.q0(250));
        Due.is("made from Q", pool.read(0, 0), 250);
        pool.change(0, false);
        pool.change(4, false);
        pool.rebuild(16);
        pool.rebuild(16);
        Due.is("raw(0, 0)", pool.raw(0, 0), 250);
        Due.is("all is right", pool.scrub(16), 0);
        Due.is("none is bad", pool.state(4), 0);
    }

    private static void inALostStripe() {
        Due.sentence("(where they are there then): in a stripe that is lost then");
        RaidPool pool = Sample.down(0);
        pool.change(1, true);
        pool.change(2, true);
        pool.change(3, true);
        Due.yes("recover()", pool.recover());
        Due.is("not down", pool.state(6), 0);
        Due.is("raw(0, 0)", pool.raw(0, 0), 250);
        Due.is("read(0, 0)", pool.read(0, 0), 250);
        Due.is("read(0, 1)", pool.read(0, 1), RaidPool.LOST);
        Due.is("raw(4, 0)", pool.raw(4, 0), Sample.p0(250));
        Due.is("raw(5, 0)", pool.raw(5, 0), Sample.q0(250));
    }

    private static void onANewDisk() {
        Due.sentence("(where they are there then): on a disk that is new then");
        RaidPool pool = Sample.down(1);
        pool.change(0, true);
        pool.change(0, false);
        Due.yes("recover()", pool.recover());
        Due.is("a new disk has no byte", pool.raw(0, 0), -1);
        Due.is("its mark is 0", pool.state(16), 0);
        Due.is("made from P", pool.read(0, 0), 250);
        RaidPool below = Sample.without(0);
        below.change(0, false);
        below.rebuild(1);
        below.crash(0);
        Due.is("write", below.write(0, 0, 9), RaidPool.DOWN);
        below.recover();
        Due.is("below the mark it is there", below.raw(0, 0), 9);
    }

    private static void theNoteStands() {
        Due.sentence("It is NOTED before with all three bytes");
        RaidPool pool = Sample.down(1);
        pool.spoil(0, 0, 70);
        pool.spoil(1, 0, 71);
        pool.spoil(4, 0, 72);
        pool.spoil(5, 0, 73);
        Due.yes("recover()", pool.recover());
        Due.stripe("not bytes that rest on what changed meanwhile", pool, 0, 250, Sample.value(1) ^ 71,
                Sample.value(2), Sample.value(3), Sample.p0(250), Sample.q0(250));
        Due.is("scrub finds the one outside the note", pool.scrub(1), 1);
        Due.is("raw(1, 0)", pool.raw(1, 0), Sample.value(1));
    }

    private static void theLblockIsOnTheBlock() {
        Due.sentence("and the lblock is on the block");
        RaidPool pool = new RaidPool();
        pool.crash(2);
        Due.is("write", pool.write(0, 6, 55), RaidPool.DOWN);
        Due.is("not on a block yet", pool.place(0, 6), -1);
        Due.yes("recover()", pool.recover());
        Due.is("place(0, 6)", pool.place(0, 6), 0);
        Due.is("free blocks", pool.state(0), 63);
        Due.is("read(0, 6)", pool.read(0, 6), 55);
        Due.is("the next one goes elsewhere", pool.write(0, 7, 1), RaidPool.OK);
        Due.is("place(0, 7)", pool.place(0, 7), 1);
    }

    private static void aSharedBlock() {
        Due.sentence("and the lblock is on the block: one that was on a shared block");
        RaidPool pool = Sample.filled();
        pool.snapshot(0);
        pool.crash(0);
        Due.is("write", pool.write(1, 2, 9), RaidPool.DOWN);
        Due.is("place(1, 2)", pool.place(1, 2), 2);
        Due.is("shared blocks", pool.state(1), 20);
        Due.yes("recover()", pool.recover());
        Due.is("place(1, 2)", pool.place(1, 2), 20);
        Due.is("place(0, 2)", pool.place(0, 2), 2);
        Due.is("shared blocks", pool.state(1), 19);
        Due.is("read(1, 2)", pool.read(1, 2), 9);
        Due.is("read(0, 2)", pool.read(0, 2), Sample.value(2));
    }
}
