/** Promise 16: place. */
final class Promise16PlaceTest {
    public static void main(String[] args) {
        theBlock();
        empty();
        thereIsNone();
        whileDown();
        Due.end();
    }

    private static void theBlock() {
        Due.sentence("The block that an lblock is on");
        RaidPool pool = new RaidPool();
        pool.write(0, 19, 1);
        pool.write(0, 3, 1);
        Due.is("place(0, 19)", pool.place(0, 19), 0);
        Due.is("place(0, 3)", pool.place(0, 3), 1);
        pool.snapshot(0);
        Due.is("a shared one", pool.place(1, 3), 1);
        pool.write(1, 3, 2);
        Due.is("shared no more", pool.place(1, 3), 2);
        Due.is("the last block", Sample.full().place(3, 3), 63);
        pool.delay(1);
        pool.write(1, 19, 5);
        Due.is("where it is while another one waits", pool.place(1, 19), 0);
        pool.flush(1);
        Due.is("where it is then", pool.place(1, 19), 3);
    }

    private static void empty() {
        Due.sentence("-1 if it is empty");
        RaidPool pool = new RaidPool();
        Due.is("never written", pool.place(0, 0), -1);
        pool.write(0, 0, 1);
        Due.is("another one", pool.place(0, 1), -1);
        pool.trim(0, 0);
        Due.is("trimmed", pool.place(0, 0), -1);
        pool.delay(1);
        pool.write(0, 0, 1);
        Due.is("one that waits", pool.place(0, 0), -1);
    }

    private static void thereIsNone() {
        Due.sentence("-1 if [..] there is none");
        RaidPool pool = Sample.filled();
        for (int volume : Sample.outside(0, 5)) {
            Due.is("place(" + volume + ", 0)", pool.place(volume, 0), -1);
        }
        for (int lblock : Sample.outside(0, 19)) {
            Due.is("place(0, " + lblock + ")", pool.place(0, lblock), -1);
        }
        Due.is("a volume that is not there", pool.place(1, 3), -1);
        pool.snapshot(0);
        Due.is("there it is", pool.place(1, 3), 3);
        Due.is("lblock 20 of volume 0 is not lblock 0 of volume 1", pool.place(0, 20), -1);
        Due.is("nor is lblock -1 of volume 1 lblock 19 of volume 0", pool.place(1, -1), -1);
        pool.drop(1);
        Due.is("a volume that is there no more", pool.place(1, 3), -1);
    }

    private static void whileDown() {
        Due.sentence("While the pool is down write, flush, read, trim, snapshot, drop, rebuild and scrub answer DOWN: "
                + "place is none of them");
        RaidPool pool = Sample.down(0);
        Due.is("place(0, 19)", pool.place(0, 19), 19);
        Due.is("place(0, 20)", pool.place(0, 20), -1);
        Due.is("place(1, 0)", pool.place(1, 0), -1);
    }
}
