/** Promise 11: spoil. */
final class Promise11SpoilTest {
    public static void main(String[] args) {
        RaidPool pool = Sample.filled();
        Due.yes("spoil(0, 0, 5)", pool.spoil(0, 0, 5));
        Due.is("raw(0, 0)", pool.raw(0, 0), Sample.value(0) ^ 5);
        Due.is("read(0, 0)", pool.read(0, 0), Sample.value(0) ^ 5);
        Due.is("the others stay", pool.raw(1, 0), Sample.value(1));
        int p = pool.raw(4, 0);
        int q = pool.raw(5, 0);
        Due.is("P stays", p, Sample.p(Sample.value(0), Sample.value(1), Sample.value(2), Sample.value(3)));
        Due.is("Q stays", q, Sample.q(Sample.value(0), Sample.value(1), Sample.value(2), Sample.value(3)));
        Due.yes("again", pool.spoil(0, 0, 5));
        Due.is("raw(0, 0)", pool.raw(0, 0), Sample.value(0));
        Due.yes("x is cut", pool.spoil(0, 0, 256 + 1));
        Due.is("raw(0, 0)", pool.raw(0, 0), Sample.value(0) ^ 1);
        Due.yes("x is cut", pool.spoil(0, 0, -1));
        Due.is("raw(0, 0)", pool.raw(0, 0), Sample.value(0) ^ 254);
        Due.yes("x is 0", pool.spoil(5, 15, 0));
        Due.is("raw(5, 15)", pool.raw(5, 15), 0);
        Due.yes("an unused stripe", pool.spoil(5, 15, 9));
        Due.is("raw(5, 15)", pool.raw(5, 15), 9);

        int[][] wrong = {{-1, 0}, {6, 0}, {0, -1}, {0, 16}, {Integer.MIN_VALUE, 0}, {0, Integer.MAX_VALUE}};
        for (int[] w : wrong) {
            Due.no("spoil(" + w[0] + ", " + w[1] + ", 1)", pool.spoil(w[0], w[1], 1));
        }
        pool.change(2, true);
        Due.no("a failed disk", pool.spoil(2, 0, 1));
        pool.change(2, false);
        Due.no("a new disk", pool.spoil(2, 0, 1));
        pool.rebuild(1);
        Due.yes("below its mark", pool.spoil(2, 0, 1));
        Due.no("at its mark", pool.spoil(2, 1, 1));
        pool.crash(0);
        pool.write(0, 8, 1);
        Due.yes("while it is down", pool.spoil(3, 0, 1));
        Due.is("raw(3, 0)", pool.raw(3, 0), Sample.value(3) ^ 1);
        Due.end();
    }
}
