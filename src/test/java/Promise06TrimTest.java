/** Promise 6: trim. */
final class Promise06TrimTest {
    public static void main(String[] args) {
        RaidPool pool = Sample.filled();
        Due.is("trim(0, 4)", pool.trim(0, 4), RaidPool.OK);
        Due.is("place(0, 4)", pool.place(0, 4), -1);
        Due.is("read(0, 4)", pool.read(0, 4), 0);
        Due.is("the byte stays on the disk", pool.raw(1, 1), Sample.value(4));
        Due.is("free blocks", pool.state(0), 45);
        Due.is("an empty one", pool.trim(0, 4), RaidPool.OK);
        Due.is("free blocks", pool.state(0), 45);

        Due.is("snapshot(0)", pool.snapshot(0), 1);
        Due.is("a shared one", pool.trim(1, 6), RaidPool.OK);
        Due.is("its block is not free", pool.state(0), 45);
        Due.is("it is not shared any more", pool.state(1), 18);
        Due.is("place(0, 6)", pool.place(0, 6), 6);

        pool.delay(3);
        pool.write(0, 1, 1);
        pool.write(0, 2, 2);
        pool.write(1, 2, 3);
        Due.is("one that is waited for", pool.trim(0, 2), RaidPool.OK);
        Due.is("two wait", pool.state(7), 2);
        Due.is("read(0, 2)", pool.read(0, 2), 0);
        Due.is("read(1, 2)", pool.read(1, 2), 3);
        Due.is("flush(6)", pool.flush(6), 2);
        Due.is("place(0, 2)", pool.place(0, 2), -1);

        int[][] wrong = {{2, 0}, {-1, 0}, {6, 0}, {0, -1}, {0, 20}, {Integer.MIN_VALUE, Integer.MAX_VALUE}};
        for (int[] w : wrong) {
            Due.is("trim(" + w[0] + ", " + w[1] + ")", pool.trim(w[0], w[1]), RaidPool.NONE);
        }
        pool.delay(0);
        pool.crash(2);
        pool.write(0, 10, 1);
        Due.is("down", pool.trim(0, 9), RaidPool.DOWN);
        Due.is("nothing changes", pool.place(0, 9), 9);
        Due.end();
    }
}
