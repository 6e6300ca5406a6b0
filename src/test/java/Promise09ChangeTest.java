/** Promise 9: change. */
final class Promise09ChangeTest {
    public static void main(String[] args) {
        aGoodOneFails();
        aNewOneFails();
        aFailedOneIsNew();
        thereIsNone();
        itIsNotSo();
        whileDown();
        Due.end();
    }

    private static void aGoodOneFails() {
        Due.sentence("A good or new disk is FAILED from now on (fails) [..]: true: a good one");
        RaidPool pool = Sample.filled();
        for (int disk = 0; disk < 6; disk++) {
            Due.yes("change(" + disk + ", true)", pool.change(disk, true));
            Due.is("disk " + disk, pool.state(8 + disk), 1);
            Due.is("no mark", pool.state(16 + disk), -1);
            Due.is("raw(" + disk + ", 0)", pool.raw(disk, 0), -1);
        }
        Due.is("all six may fail", pool.state(3), 16);
    }

    private static void aNewOneFails() {
        Due.sentence("A good or new disk is FAILED from now on (fails) [..]: true: a new one");
        RaidPool pool = Sample.without(5);
        pool.change(5, false);
        Due.yes("with mark 0", pool.change(5, true));
        Due.is("disk 5", pool.state(13), 1);
        pool.change(5, false);
        Due.is("rebuild(4)", pool.rebuild(4), 4);
        Due.is("raw(5, 0)", pool.raw(5, 0), Sample.q0(Sample.value(0)));
        Due.yes("with mark 4", pool.change(5, true));
        Due.is("disk 5", pool.state(13), 1);
        Due.is("no mark", pool.state(21), -1);
        Due.is("raw(5, 0)", pool.raw(5, 0), -1);
        Due.is("no disk is new", pool.rebuild(1), 0);
    }

    private static void aFailedOneIsNew() {
        Due.sentence("or a failed one NEW, with mark 0: true");
        RaidPool pool = Sample.without(5);
        Due.yes("change(5, false)", pool.change(5, false));
        Due.is("disk 5", pool.state(13), 2);
        Due.is("mark", pool.state(21), 0);
        Due.is("raw(5, 0)", pool.raw(5, 0), -1);
        pool.rebuild(4);
        pool.change(5, true);
        Due.yes("once more", pool.change(5, false));
        Due.is("mark 0 again", pool.state(21), 0);
        Due.is("raw(5, 0)", pool.raw(5, 0), -1);
        pool.rebuild(16);
        pool.change(5, true);
        Due.yes("after it was good", pool.change(5, false));
        Due.is("mark 0 again", pool.state(21), 0);
    }

    private static void thereIsNone() {
        Due.sentence("false if there is none");
        RaidPool pool = Sample.without(0);
        int[] before = Sample.look(pool);
        for (int disk : Sample.outside(0, 5)) {
            Due.no("change(" + disk + ", true)", pool.change(disk, true));
            Due.no("change(" + disk + ", false)", pool.change(disk, false));
        }
        Due.unchanged("no disk", before, pool);
        Due.yes("the last one", pool.change(5, true));
    }

    private static void itIsNotSo() {
        Due.sentence("false if [..] it is not so");
        RaidPool pool = Sample.filled();
        Due.no("a good one does not become new", pool.change(5, false));
        Due.is("disk 5", pool.state(13), 0);
        Due.is("raw(5, 0)", pool.raw(5, 0), Sample.q0(Sample.value(0)));
        pool.change(5, true);
        Due.no("a failed one does not fail", pool.change(5, true));
        Due.is("disk 5", pool.state(13), 1);
        pool.change(5, false);
        Due.no("a new one does not become new", pool.change(5, false));
        pool.rebuild(4);
        Due.no("nor does it with a mark", pool.change(5, false));
        Due.is("mark", pool.state(21), 4);
        Due.is("raw(5, 0)", pool.raw(5, 0), Sample.q0(Sample.value(0)));
    }

    private static void whileDown() {
        Due.sentence("While the pool is down write, flush, read, trim, snapshot, drop, rebuild and scrub answer DOWN: "
                + "change is none of them");
        RaidPool pool = Sample.down(0);
        Due.yes("change(0, true)", pool.change(0, true));
        Due.is("disk 0", pool.state(8), 1);
        Due.yes("change(0, false)", pool.change(0, false));
        Due.is("disk 0", pool.state(8), 2);
        Due.no("change(6, true)", pool.change(6, true));
    }
}
