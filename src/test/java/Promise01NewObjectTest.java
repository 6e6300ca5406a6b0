/** Promise 1: a new object. */
final class Promise01NewObjectTest {
    public static void main(String[] args) {
        volumeZeroAlone();
        empty();
        allDisksGood();
        allBytesZero();
        noCrashSet();
        nothingElseIsUnderWay();
        theObjectsAreApart();
        Due.end();
    }

    private static void volumeZeroAlone() {
        Due.sentence("Volume 0 alone");
        RaidPool pool = new RaidPool();
        Due.is("volumes", pool.state(2), 1);
        Due.is("read(0, 0)", pool.read(0, 0), 0);
        for (int volume = 1; volume < 6; volume++) {
            Due.is("read(" + volume + ", 0)", pool.read(volume, 0), RaidPool.NONE);
        }
    }

    private static void empty() {
        Due.sentence("empty");
        RaidPool pool = new RaidPool();
        for (int lblock = 0; lblock < 20; lblock++) {
            Due.is("place(0, " + lblock + ")", pool.place(0, lblock), -1);
            Due.is("read(0, " + lblock + ")", pool.read(0, lblock), 0);
        }
        Due.is("free blocks", pool.state(0), 64);
        Due.is("shared blocks", pool.state(1), 0);
    }

    private static void allDisksGood() {
        Due.sentence("all disks good");
        RaidPool pool = new RaidPool();
        for (int disk = 0; disk < 6; disk++) {
            Due.is("disk " + disk, pool.state(8 + disk), 0);
            Due.is("mark of disk " + disk, pool.state(16 + disk), -1);
        }
        Due.is("lost stripes", pool.state(3), 0);
        Due.is("no disk is new", pool.rebuild(1), 0);
    }

    private static void allBytesZero() {
        Due.sentence("all bytes 0");
        RaidPool pool = new RaidPool();
        for (int i = 0; i < 96; i++) {
            Due.is("raw(" + i / 16 + ", " + i % 16 + ")", pool.raw(i / 16, i % 16), 0);
        }
    }

    private static void noCrashSet() {
        Due.sentence("no crash set");
        RaidPool pool = new RaidPool();
        Due.is("not down", pool.state(6), 0);
        Due.is("write(0, 0, 7)", pool.write(0, 0, 7), RaidPool.OK);
        Due.is("not down", pool.state(6), 0);
        Due.is("read(0, 0)", pool.read(0, 0), 7);
    }

    private static void nothingElseIsUnderWay() {
        Due.sentence("up to DELAY (0 at first) writes wait");
        RaidPool pool = new RaidPool();
        Due.is("nothing waits", pool.state(7), 0);
        Due.is("write(0, 0, 7)", pool.write(0, 0, 7), RaidPool.OK);
        Due.is("it does not wait", pool.state(7), 0);
        Due.is("place(0, 0)", pool.place(0, 0), 0);
        Due.is("bad stripes", pool.state(4), 0);
        Due.is("scrub begins with stripe 0", pool.state(5), 0);
    }

    private static void theObjectsAreApart() {
        Due.sentence("A new object");
        RaidPool one = new RaidPool();
        one.write(0, 0, 9);
        one.change(3, true);
        one.delay(4);
        one.crash(0);
        RaidPool other = new RaidPool();
        Due.is("read of the other", other.read(0, 0), 0);
        Due.is("disk 3 of the other", other.state(11), 0);
        Due.is("write to the other", other.write(0, 0, 1), RaidPool.OK);
        Due.is("nothing waits there", other.state(7), 0);
        Due.is("read of the one", one.read(0, 0), 9);
    }
}
