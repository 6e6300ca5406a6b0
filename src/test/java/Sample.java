/** Pools and bytes that several tests start from. */
final class Sample {
    private Sample() {}

    /** The byte that filled() writes to an lblock: all of them differ. */
    static int value(int lblock) {
        return (lblock * 37 + 11) & 255;
    }

    /** Volume 0 with all 20 lblocks written: they are on the blocks 0..19, the stripes 0..4. */
    static RaidPool filled() {
        RaidPool pool = new RaidPool();
        for (int lblock = 0; lblock < 20; lblock++) {
            Due.is("write(0, " + lblock + ")", pool.write(0, lblock, value(lblock)), RaidPool.OK);
        }
        return pool;
    }

    /** No block is free: the volumes 0, 1, 2 have 20 each of their own, volume 3 has four. */
    static RaidPool full() {
        RaidPool pool = filled();
        for (int volume = 1; volume <= 3; volume++) {
            Due.is("snapshot(0)", pool.snapshot(0), volume);
            for (int lblock = 0; lblock < (volume < 3 ? 20 : 4); lblock++) {
                Due.is("write to a copy", pool.write(volume, lblock, volume * 50 + lblock), RaidPool.OK);
            }
        }
        Due.is("free blocks", pool.state(0), 0);
        return pool;
    }

    /** A product in GF(256) as polynomials over 285, not by doubling step by step. */
    static int product(int a, int b) {
        int result = 0;
        for (int bit = 0; bit < 8; bit++) {
            if ((b >> bit & 1) == 1) {
                result ^= a << bit;
            }
        }
        for (int bit = 15; bit >= 8; bit--) {
            if ((result >> bit & 1) == 1) {
                result ^= 285 << (bit - 8);
            }
        }
        return result;
    }

    static int p(int a, int b, int c, int d) {
        return a ^ b ^ c ^ d;
    }

    static int q(int a, int b, int c, int d) {
        return a ^ product(2, b) ^ product(4, c) ^ product(8, d);
    }
}
