/** Promise 15: raw. */
final class Promise15RawTest {
    public static void main(String[] args) {
        RaidPool pool = new RaidPool();
        for (int lblock = 0; lblock < 20; lblock++) {
            pool.write(0, lblock, 200 + lblock);
        }
        for (int block = 0; block < 20; block++) {
            int stripe = block / 4;
            Due.is("block " + block, pool.raw((stripe + block % 4) % 6, stripe), 200 + block);
        }
        for (int stripe = 0; stripe < 5; stripe++) {
            int v = 200 + 4 * stripe;
            Due.is("P of " + stripe, pool.raw((stripe + 4) % 6, stripe), Sample.p(v, v + 1, v + 2, v + 3));
            Due.is("Q of " + stripe, pool.raw((stripe + 5) % 6, stripe), Sample.q(v, v + 1, v + 2, v + 3));
        }
        int[][] wrong = {{-1, 0}, {6, 0}, {0, -1}, {0, 16}, {5, 16}, {-1, 16}, {Integer.MAX_VALUE, 0},
            {Integer.MIN_VALUE, 0}, {0, Integer.MAX_VALUE}, {0, Integer.MIN_VALUE}};
        for (int[] w : wrong) {
            Due.is("raw(" + w[0] + ", " + w[1] + ")", pool.raw(w[0], w[1]), -1);
        }
        pool.change(2, true);
        Due.is("failed", pool.raw(2, 0), -1);
        pool.change(2, false);
        pool.rebuild(3);
        Due.is("below the mark", pool.raw(2, 2), 208);
        Due.is("at the mark", pool.raw(2, 3), -1);
        Due.is("above the mark", pool.raw(2, 15), -1);
        pool.crash(0);
        pool.write(0, 0, 1);
        Due.is("while it is down", pool.raw(0, 0), 200);
        Due.end();
    }
}
