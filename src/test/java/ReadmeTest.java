/** The calls that README.md shows, with the answers that it tells. */
final class ReadmeTest {
    public static void main(String[] args) {
        RaidPool pool = new RaidPool();
        Due.is("write(0, 3, 200)", pool.write(0, 3, 200), RaidPool.OK);
        Due.is("place(0, 3)", pool.place(0, 3), 0);
        int copy = pool.snapshot(0);
        Due.is("snapshot(0)", copy, 1);
        Due.is("write(1, 3, 7)", pool.write(copy, 3, 7), RaidPool.OK);
        Due.is("place(1, 3)", pool.place(copy, 3), 1);
        Due.yes("change(0, true)", pool.change(0, true));
        Due.yes("change(1, true)", pool.change(1, true));
        Due.is("read(0, 3)", pool.read(0, 3), 200);
        Due.yes("change(0, false)", pool.change(0, false));
        Due.is("rebuild(16)", pool.rebuild(16), 16);
        Due.is("disk 0", pool.state(8), 0);
        Due.yes("crash(1)", pool.crash(1));
        Due.is("write(0, 3, 5)", pool.write(0, 3, 5), RaidPool.DOWN);
        Due.yes("recover()", pool.recover());
        Due.is("read(0, 3)", pool.read(0, 3), 5);
        Due.end();
    }
}
