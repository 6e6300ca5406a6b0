/** Promise 18: while the pool is down, DOWN goes before all else and nothing changes. */
final class Promise18OrderTest {
    private static final int[] NUMBERS = {0, 1, 3, 6, 16, 17, 20, -1, Integer.MAX_VALUE, Integer.MIN_VALUE};

    public static void main(String[] args) {
        RaidPool pool = Sample.filled();
        pool.snapshot(0);
        pool.change(3, true);
        pool.change(3, false);
        pool.crash(1);
        Due.is("write", pool.write(0, 0, 250), RaidPool.DOWN);
        int[] before = look(pool);
        for (int n : NUMBERS) {
            Due.is("write(" + n + ", 0, 1)", pool.write(n, 0, 1), RaidPool.DOWN);
            Due.is("write(0, " + n + ", 1)", pool.write(0, n, 1), RaidPool.DOWN);
            Due.is("flush(" + n + ")", pool.flush(n), RaidPool.DOWN);
            Due.is("read(" + n + ", 1)", pool.read(n, 1), RaidPool.DOWN);
            Due.is("read(1, " + n + ")", pool.read(1, n), RaidPool.DOWN);
            Due.is("trim(" + n + ", 1)", pool.trim(n, 1), RaidPool.DOWN);
            Due.is("trim(1, " + n + ")", pool.trim(1, n), RaidPool.DOWN);
            Due.is("snapshot(" + n + ")", pool.snapshot(n), RaidPool.DOWN);
            Due.is("drop(" + n + ")", pool.drop(n), RaidPool.DOWN);
            Due.is("rebuild(" + n + ")", pool.rebuild(n), RaidPool.DOWN);
            Due.is("scrub(" + n + ")", pool.scrub(n), RaidPool.DOWN);
        }
        int[] after = look(pool);
        for (int i = 0; i < before.length; i++) {
            Due.is("what was seen, number " + i, after[i], before[i]);
        }
        Due.yes("delay(2) is not refused", pool.delay(2));
        Due.is("a write with a delay", pool.write(0, 1, 1), RaidPool.DOWN);
        Due.is("nothing waits", pool.state(7), 0);
        Due.yes("recover()", pool.recover());
        Due.is("read(0, 0)", pool.read(0, 0), 250);
        Due.is("write", pool.write(0, 1, 1), RaidPool.OK);
        Due.is("one waits", pool.state(7), 1);
        Due.end();
    }

    private static int[] look(RaidPool pool) {
        int[] seen = new int[96 + 20 + 22];
        for (int i = 0; i < 96; i++) {
            seen[i] = pool.raw(i / 16, i % 16);
        }
        for (int i = 0; i < 20; i++) {
            seen[96 + i] = pool.place(i % 2, i);
        }
        for (int i = 0; i < 22; i++) {
            seen[116 + i] = pool.state(i);
        }
        return seen;
    }
}
