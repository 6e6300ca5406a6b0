/** Promise 9: change. */
final class Promise09ChangeTest {
    public static void main(String[] args) {
        RaidPool pool = Sample.filled();
        for (int disk : new int[] {-1, 6, Integer.MAX_VALUE, Integer.MIN_VALUE}) {
            Due.no("change(" + disk + ", true)", pool.change(disk, true));
            Due.no("change(" + disk + ", false)", pool.change(disk, false));
        }
        Due.no("a good one does not become new", pool.change(5, false));
        Due.is("disk 5", pool.state(13), 0);
        Due.yes("a good one fails", pool.change(5, true));
        Due.is("disk 5", pool.state(13), 1);
        Due.is("no mark", pool.state(21), -1);
        Due.is("raw(5, 0)", pool.raw(5, 0), -1);
        Due.no("a failed one does not fail", pool.change(5, true));
        Due.yes("a failed one becomes new", pool.change(5, false));
        Due.is("disk 5", pool.state(13), 2);
        Due.is("mark", pool.state(21), 0);
        Due.is("raw(5, 0)", pool.raw(5, 0), -1);
        Due.no("a new one does not become new", pool.change(5, false));
        Due.is("rebuild(4)", pool.rebuild(4), 4);
        Due.is("raw(5, 3)", pool.raw(5, 3) >= 0 ? 1 : 0, 1);
        Due.is("raw(5, 4)", pool.raw(5, 4), -1);
        Due.no("nor does it with a mark", pool.change(5, false));
        Due.is("mark", pool.state(21), 4);
        Due.yes("a new one fails", pool.change(5, true));
        Due.is("disk 5", pool.state(13), 1);
        Due.is("raw(5, 0)", pool.raw(5, 0), -1);
        Due.yes("and is new again", pool.change(5, false));
        Due.is("with mark 0", pool.state(21), 0);
        pool.crash(0);
        pool.write(0, 0, 1);
        Due.yes("while it is down", pool.change(0, true));
        Due.yes("while it is down", pool.change(0, false));
        Due.end();
    }
}
