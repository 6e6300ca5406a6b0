/** Promise 16: place. */
final class Promise16PlaceTest {
    public static void main(String[] args) {
        RaidPool pool = new RaidPool();
        Due.is("empty", pool.place(0, 19), -1);
        pool.write(0, 19, 1);
        pool.write(0, 3, 1);
        Due.is("place(0, 19)", pool.place(0, 19), 0);
        Due.is("place(0, 3)", pool.place(0, 3), 1);
        Due.is("no volume", pool.place(1, 3), -1);
        pool.snapshot(0);
        Due.is("place(1, 3)", pool.place(1, 3), 1);
        pool.write(1, 3, 2);
        Due.is("place(1, 3)", pool.place(1, 3), 2);
        pool.drop(1);
        Due.is("no volume", pool.place(1, 3), -1);
        int[][] wrong = {{-1, 0}, {6, 0}, {0, -1}, {0, 20}, {Integer.MAX_VALUE, 0}, {0, Integer.MIN_VALUE}};
        for (int[] w : wrong) {
            Due.is("place(" + w[0] + ", " + w[1] + ")", pool.place(w[0], w[1]), -1);
        }
        pool.delay(1);
        pool.write(0, 5, 1);
        Due.is("one that waits is on no block", pool.place(0, 5), -1);
        pool.crash(0);
        pool.flush(1);
        Due.is("while it is down", pool.place(0, 19), 0);
        Due.is("noted alone", pool.place(0, 5), -1);
        pool.recover();
        Due.is("place(0, 5)", pool.place(0, 5), 2);
        Due.end();
    }
}
