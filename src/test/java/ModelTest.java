import java.util.ArrayList;
import java.util.List;

/** Long runs of mixed calls, the same in every run of the test, answered by the class and by the model. */
final class ModelTest {
    private static final int[] ODD = {-1, 6, 7, 16, 17, 20, 64, 255, 256, Integer.MAX_VALUE, Integer.MIN_VALUE};

    private long seed;
    private final RaidPool pool = new RaidPool();
    private final PoolModel model = new PoolModel();
    private final List<String> calls = new ArrayList<>();
    private boolean same = true;
    private boolean crowded = false;

    private ModelTest(long seed) {
        this.seed = seed * 7919 + 1;
    }

    public static void main(String[] args) {
        int differing = 0;
        int runs = 6000;
        for (int run = 0; run < runs && differing < 3; run++) {
            if (!new ModelTest(run).run(run)) {
                differing++;
            }
        }
        System.out.println(runs + " runs, " + differing + " of them differ");
        if (differing > 0) {
            System.exit(1);
        }
    }

    private int below(int n) {
        seed = seed * 6364136223846793005L + 1442695040888963407L;
        return (int) ((seed >>> 33) % n);
    }

    /** Mostly a number below n, now and then one that is odd. */
    private int number(int n) {
        return below(60) == 0 ? ODD[below(ODD.length)] : below(n);
    }

    /** Even runs end with a look at all that can be seen; odd ones use all 512 calls in between. */
    private boolean run(int run) {
        boolean look = run % 2 == 0;
        // Runs differ in how often disks fail, so that some lose stripes all the time and some never.
        int disasters = run % 5;
        if (run % 4 == 1) {
            crowd();
        }
        while (same && calls.size() < (look ? 150 : 512)) {
            step(disasters);
        }
        if (look && same) {
            lookAtAll();
        }
        return same;
    }

    /** Leaves four blocks free and all but two volumes there, so that the run soon meets FULL. */
    private void crowd() {
        for (int volume = 0; volume < 3; volume++) {
            for (int l = 0; l < 20; l++) {
                int x = below(256);
                check("write(" + volume + ", " + l + ", " + x + ")",
                        pool.write(volume, l, x), model.write(volume, l, x));
            }
            check("snapshot(0)", pool.snapshot(0), model.snapshot(0));
        }
        crowded = true;
    }

    private void step(int disasters) {
        int pick = below(100);
        int v = crowded || below(3) == 0 ? number(6) : below(2);
        int l = number(20);
        if (pick < 34) {
            int x = number(256);
            check("write(" + v + ", " + l + ", " + x + ")", pool.write(v, l, x), model.write(v, l, x));
        } else if (pick < 44) {
            check("read(" + v + ", " + l + ")", pool.read(v, l), model.read(v, l));
        } else if (pick < 48) {
            check("trim(" + v + ", " + l + ")", pool.trim(v, l), model.trim(v, l));
        } else if (pick < 52) {
            check("snapshot(" + v + ")", pool.snapshot(v), model.snapshot(v));
        } else if (pick < 54 && (!crowded || below(4) == 0)) {
            int volume = below(8) == 0 ? v : 1 + below(5);
            check("drop(" + volume + ")", pool.drop(volume), model.drop(volume));
        } else if (pick < 57) {
            int n = number(7);
            check("delay(" + n + ")", pool.delay(n), model.delay(n));
        } else if (pick < 60) {
            int n = number(7);
            check("flush(" + n + ")", pool.flush(n), model.flush(n));
        } else if (pick < 70) {
            disks(disasters);
        } else if (pick < 76) {
            int n = number(17);
            check("scrub(" + n + ")", pool.scrub(n), model.scrub(n));
        } else if (pick < 79) {
            int n = below(4) - 1;
            int after = below(20) == 0 ? number(5) - 2 : n;
            check("crash(" + after + ")", pool.crash(after), model.crash(after));
        } else if (pick < 87) {
            check("recover()", pool.recover(), model.recover());
        } else if (pick < 92) {
            int d = number(6);
            int s = number(16);
            check("raw(" + d + ", " + s + ")", pool.raw(d, s), model.raw(d, s));
        } else if (pick < 95) {
            check("place(" + v + ", " + l + ")", pool.place(v, l), model.place(v, l));
        } else {
            int what = number(24);
            check("state(" + what + ")", pool.state(what), model.state(what));
        }
    }

    private void disks(int disasters) {
        int d = number(6);
        int s = below(2) == 0 ? below(4) : number(16);
        int kind = below(10);
        if (kind < 1 + disasters) {
            boolean fails = below(2) == 0;
            check("change(" + d + ", " + fails + ")", pool.change(d, fails), model.change(d, fails));
        } else if (kind < 7) {
            int n = number(17);
            check("rebuild(" + n + ")", pool.rebuild(n), model.rebuild(n));
        } else {
            int x = number(256);
            check("spoil(" + d + ", " + s + ", " + x + ")", pool.spoil(d, s, x), model.spoil(d, s, x));
        }
    }

    private void lookAtAll() {
        for (int i = 0; i < 96; i++) {
            check("raw(" + i / 16 + ", " + i % 16 + ")", pool.raw(i / 16, i % 16), model.raw(i / 16, i % 16));
        }
        for (int i = 0; i < 120; i++) {
            check("place(" + i / 20 + ", " + i % 20 + ")",
                    pool.place(i / 20, i % 20), model.place(i / 20, i % 20));
            check("read(" + i / 20 + ", " + i % 20 + ")", pool.read(i / 20, i % 20), model.read(i / 20, i % 20));
        }
        for (int what = 0; what < 22; what++) {
            check("state(" + what + ")", pool.state(what), model.state(what));
        }
    }

    private void check(String call, boolean got, boolean want) {
        check(call, got ? 1 : 0, want ? 1 : 0);
    }

    private void check(String call, int got, int want) {
        calls.add(call + " = " + got);
        if (same && got != want) {
            same = false;
            calls.forEach(System.out::println);
            System.out.println("the model answers " + want + " to the last of these calls");
        }
    }
}
