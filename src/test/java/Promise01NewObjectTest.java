/** Promise 1: volume 0 alone, empty; all disks good, all bytes 0; no crash set. */
final class Promise01NewObjectTest {
    public static void main(String[] args) {
        RaidPool pool = new RaidPool();
        for (int disk = 0; disk < 6; disk++) {
            for (int stripe = 0; stripe < 16; stripe++) {
                Due.is("raw(" + disk + ", " + stripe + ")", pool.raw(disk, stripe), 0);
            }
            Due.is("state of disk " + disk, pool.state(8 + disk), 0);
        }
        for (int volume = 0; volume < 6; volume++) {
            for (int lblock = 0; lblock < 20; lblock++) {
                Due.is("place(" + volume + ", " + lblock + ")", pool.place(volume, lblock), -1);
            }
            Due.is("read(" + volume + ", 0)", pool.read(volume, 0), volume == 0 ? 0 : RaidPool.NONE);
        }
        int[] want = {64, 0, 1, 0, 0, 0, 0, 0};
        for (int what = 0; what < want.length; what++) {
            Due.is("state(" + what + ")", pool.state(what), want[what]);
        }
        Due.is("a write: no crash is set, and it does not wait", pool.write(0, 0, 7), RaidPool.OK);
        Due.is("nothing waits", pool.state(7), 0);
        Due.is("place(0, 0)", pool.place(0, 0), 0);
        theObjectsAreApart();
        Due.end();
    }

    private static void theObjectsAreApart() {
        RaidPool one = new RaidPool();
        one.write(0, 0, 9);
        one.change(3, true);
        one.delay(4);
        RaidPool other = new RaidPool();
        Due.is("read of the other", other.read(0, 0), 0);
        Due.is("disk 3 of the other", other.state(11), 0);
        Due.is("write to the other", other.write(0, 0, 1), RaidPool.OK);
        Due.is("nothing waits there", other.state(7), 0);
    }
}
