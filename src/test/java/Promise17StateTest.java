/** Promise 17: state. */
final class Promise17StateTest {
    public static void main(String[] args) {
        RaidPool pool = Sample.filled();
        pool.snapshot(0);
        pool.snapshot(0);
        pool.write(2, 0, 1);
        pool.write(2, 1, 1);
        pool.write(1, 0, 1);
        pool.delay(3);
        pool.write(1, 7, 1);
        pool.write(1, 8, 1);
        pool.spoil(4, 0, 1);
        pool.spoil(5, 0, 16);
        pool.scrub(7);
        pool.change(1, true);
        pool.change(5, true);
        pool.change(5, false);
        pool.rebuild(5);
        pool.change(0, true);
        // Free: 64 - 20 - 3. Shared: all but block 0, which volume 0 has alone by now.
        int[] want = {41, 19, 3, 11, 1, 7, 0, 2, 1, 1, 0, 0, 0, 2, -1, -1, -1, -1, -1, -1, -1, 5, -1, -1};
        for (int what = 0; what < want.length; what++) {
            Due.is("state(" + what + ")", pool.state(what), want[what]);
        }
        for (int what : new int[] {-1, -8, 24, 1000, Integer.MAX_VALUE, Integer.MIN_VALUE}) {
            Due.is("state(" + what + ")", pool.state(what), -1);
        }
        pool.change(0, false);
        pool.change(1, false);
        Due.is("mark of disk 0", pool.state(16), 0);
        Due.is("mark of disk 1", pool.state(17), 0);
        pool.crash(0);
        Due.is("flush(6)", pool.flush(6), 0);
        Due.is("LOST, so it is not down", pool.state(6), 0);
        pool.rebuild(16);
        Due.is("flush(6)", pool.flush(6), 0);
        Due.is("down", pool.state(6), 1);
        Due.is("nothing waits", pool.state(7), 0);
        Due.is("state(0) while it is down", pool.state(0), 41);
        Due.is("state(8) while it is down", pool.state(8), 0);
        pool.recover();
        Due.is("not down", pool.state(6), 0);
        Due.is("free blocks", pool.state(0), 40);
        Due.end();
    }
}
