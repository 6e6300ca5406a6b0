/** Pools, bytes and numbers that several tests start from. */
final class Sample {
    private Sample() {}

    /** The byte that filled() writes to an lblock: all of them differ. */
    static int value(int lblock) {
        return (lblock * 37 + 11) & 255;
    }

    /** Volume 0 with all 20 lblocks written: they are on the blocks 0..19, the stripes 0..4. */
    static RaidPool filled() {
        RaidPool pool = new RaidPool();
        for (int lblock = 0; lblock < 20; lblock++) {
            Due.is("write(0, " + lblock + ")", pool.write(0, lblock, value(lblock)), RaidPool.OK);
        }
        return pool;
    }

    /** As filled(), and then some disks fail. */
    static RaidPool without(int... disks) {
        RaidPool pool = filled();
        for (int disk : disks) {
            Due.yes("change(" + disk + ", true)", pool.change(disk, true));
        }
        return pool;
    }

    /** As filled(), and then down: a write of 250 to lblock 0 stopped after so many of its bytes. */
    static RaidPool down(int after) {
        RaidPool pool = filled();
        Due.yes("crash(" + after + ")", pool.crash(after));
        Due.is("write(0, 0, 250)", pool.write(0, 0, 250), RaidPool.DOWN);
        return pool;
    }

    /** No block is free: the volumes 0, 1, 2 have 20 each of their own, volume 3 has four. */
    static RaidPool full() {
        RaidPool pool = filled();
        for (int volume = 1; volume <= 3; volume++) {
            Due.is("snapshot(0)", pool.snapshot(0), volume);
            for (int lblock = 0; lblock < (volume < 3 ? 20 : 4); lblock++) {
                int value = fullValue(volume * 20 + lblock);
                Due.is("write to a copy", pool.write(volume, lblock, value), RaidPool.OK);
            }
        }
        Due.is("free blocks", pool.state(0), 0);
        return pool;
    }

    /** The byte that full() writes to a block. */
    static int fullValue(int block) {
        return block < 20 ? value(block) : block / 20 * 50 + block % 20;
    }

    /** The P of stripe 0 in filled(), with a value for its data byte 0. */
    static int p0(int first) {
        return p(first, value(1), value(2), value(3));
    }

    /** The Q of stripe 0 in filled(), with a value for its data byte 0. */
    static int q0(int first) {
        return q(first, value(1), value(2), value(3));
    }

    /** Numbers that are none of least..most: the nearest ones and the farthest ones. */
    static int[] outside(int least, int most) {
        return new int[] {least - 1, most + 1, Integer.MIN_VALUE, Integer.MAX_VALUE};
    }

    /** What can be seen of a pool while it is down too, in 104 calls; each object has but 512. */
    static int[] look(RaidPool pool) {
        int[] seen = new int[42 + 40 + 22];
        for (int i = 0; i < 42; i++) {
            seen[i] = pool.raw(i % 6, i < 36 ? i / 6 : 15);
        }
        for (int i = 0; i < 40; i++) {
            seen[42 + i] = pool.place(i / 20, i % 20);
        }
        for (int i = 0; i < 22; i++) {
            seen[82 + i] = pool.state(i);
        }
        return seen;
    }

    /** A product in GF(256) as polynomials over 285, not by doubling step by step. */
    static int product(int a, int b) {
        int result = 0;
        for (int bit = 0; bit < 8; bit++) {
            if ((b >> bit & 1) == 1) {
                result ^= a << bit;
            }
        }
        for (int bit = 15; bit >= 8; bit--) {
            if ((result >> bit & 1) == 1) {
                result ^= 285 << (bit - 8);
            }
        }
        return result;
    }

    static int p(int a, int b, int c, int d) {
        return a ^ b ^ c ^ d;
    }

    static int q(int a, int b, int c, int d) {
        return a ^ product(2, b) ^ product(4, c) ^ product(8, d);
    }
}
