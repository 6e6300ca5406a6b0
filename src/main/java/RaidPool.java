/**
 * Volumes with snapshots on a pool of blocks that six disks carry, any two of which may be lost.
 *
 * <p>Inside, an lblock of a volume is a SLOT (volume * 20 + lblock), and the six bytes of a stripe
 * have SEATS: 0..3 its data bytes, 4 its P, 5 its Q; seat i of stripe s is on disk (s + i) mod 6.
 */
public final class RaidPool {
    public static final int OK = 0, NONE = -1, FULL = -2, LOST = -3, DOWN = -4;

    private static final int DISKS = 6;
    private static final int STRIPES = 16;
    private static final int BYTES = 96;
    private static final int DATA = 4;
    private static final int P = 4;
    private static final int Q = 5;
    private static final int BLOCKS = 64;
    private static final int VOLUMES = 6;
    private static final int LBLOCKS = 20;
    private static final int SLOTS = 120;
    private static final int NOTED = 3;
    private static final int MOST_WAITING = 6;
    private static final int GOOD = 0;
    private static final int FAILED = 1;
    private static final int NEW = 2;
    private static final int NOWHERE = -1;
    private static final int NO_CRASH = -1;

    private final int[] bytes = new int[BYTES];
    private final int[] diskState = new int[DISKS];
    private final int[] mark = new int[DISKS];
    private final int[] worth = new int[DISKS];

    private final boolean[] volumeThere = new boolean[VOLUMES];
    private final int[] blockOf = new int[SLOTS];
    private final int[] users = new int[BLOCKS];

    private final int[] waitingSlot = new int[MOST_WAITING];
    private final int[] waitingValue = new int[MOST_WAITING];
    private int waitingCount = 0;
    private int delayLimit = 0;

    private final int[] notedByte = new int[NOTED];
    private int notedSlot = 0;
    private int notedBlock = 0;
    private int crashAfter = NO_CRASH;
    private boolean down = false;

    private int scrubNext = 0;
    private int badMet = 0;

    public RaidPool() {
        volumeThere[0] = true;
        for (int slot = 0; slot < SLOTS; slot++) {
            blockOf[slot] = NOWHERE;
        }
    }

    public int write(int volume, int lblock, int value) {
        if (down) {
            return DOWN;
        }
        int slot = slotOf(volume, lblock);
        if (slot < 0) {
            return NONE;
        }
        if (delayLimit == 0) {
            return writeNow(slot, value & 255);
        }
        // The older one leaves first: the one written last stands last, not where the older one stood.
        forgetWaiting(slot);
        if (waitingCount >= delayLimit) {
            int answer = writeWaiting(0);
            if (answer != OK) {
                return answer;
            }
        }
        waitingSlot[waitingCount] = slot;
        waitingValue[waitingCount] = value & 255;
        waitingCount++;
        return OK;
    }

    public boolean delay(int n) {
        if (n < waitingCount || n > MOST_WAITING) {
            return false;
        }
        delayLimit = n;
        return true;
    }

    public int flush(int n) {
        if (down) {
            return DOWN;
        }
        if (n < 1 || n > MOST_WAITING) {
            return NONE;
        }
        int written = 0;
        for (int i = 0; i < n && waitingCount > 0; i++) {
            int answer = writeWaiting(0);
            if (answer != OK) {
                return written;
            }
            written++;
        }
        return written;
    }

    public int read(int volume, int lblock) {
        if (down) {
            return DOWN;
        }
        int slot = slotOf(volume, lblock);
        if (slot < 0) {
            return NONE;
        }
        int at = waitingAt(slot);
        if (at >= 0) {
            return waitingValue[at];
        }
        int block = blockOf[slot];
        return block < 0 ? 0 : blockWorth(block);
    }

    public int trim(int volume, int lblock) {
        if (down) {
            return DOWN;
        }
        int slot = slotOf(volume, lblock);
        if (slot < 0) {
            return NONE;
        }
        putOn(slot, NOWHERE);
        forgetWaiting(slot);
        return OK;
    }

    public int snapshot(int volume) {
        if (down) {
            return DOWN;
        }
        if (!isVolume(volume)) {
            return NONE;
        }
        int at = 0;
        for (int i = 0; i < MOST_WAITING && at < waitingCount; i++) {
            if (waitingSlot[at] / LBLOCKS != volume) {
                at++;
                continue;
            }
            // One that is written waits no more, so the next one comes to stand at the same index.
            int answer = writeWaiting(at);
            if (answer != OK) {
                return answer;
            }
        }
        int copy = leastAbsentVolume();
        if (copy < 0) {
            return FULL;
        }
        volumeThere[copy] = true;
        for (int lblock = 0; lblock < LBLOCKS; lblock++) {
            putOn(copy * LBLOCKS + lblock, blockOf[volume * LBLOCKS + lblock]);
        }
        return copy;
    }

    public int drop(int volume) {
        if (down) {
            return DOWN;
        }
        if (!isVolume(volume)) {
            return NONE;
        }
        int freeBefore = countBlocks(0, 0);
        for (int lblock = 0; lblock < LBLOCKS; lblock++) {
            putOn(volume * LBLOCKS + lblock, NOWHERE);
            forgetWaiting(volume * LBLOCKS + lblock);
        }
        volumeThere[volume] = false;
        return countBlocks(0, 0) - freeBefore;
    }

    public boolean change(int disk, boolean fails) {
        if (disk < 0 || disk >= DISKS) {
            return false;
        }
        boolean failed = diskState[disk] == FAILED;
        if (failed == fails) {
            return false;
        }
        diskState[disk] = fails ? FAILED : NEW;
        mark[disk] = 0;
        return true;
    }

    public int rebuild(int n) {
        if (down) {
            return DOWN;
        }
        if (n < 1 || n > STRIPES) {
            return NONE;
        }
        for (int done = 0; done < n; done++) {
            int disk = leastNewDisk();
            if (disk < 0) {
                return done;
            }
            rebuildByte(disk);
        }
        return n;
    }

    public boolean spoil(int disk, int stripe, int x) {
        if (!isThere(disk, stripe)) {
            return false;
        }
        bytes[disk * STRIPES + stripe] ^= x & 255;
        return true;
    }

    public int scrub(int n) {
        if (down) {
            return DOWN;
        }
        if (n < 1 || n > STRIPES) {
            return NONE;
        }
        badMet = 0;
        int changed = 0;
        for (int i = 0; i < n; i++) {
            if (mendStripe(scrubNext)) {
                changed++;
            }
            scrubNext = (scrubNext + 1) % STRIPES;
        }
        return changed;
    }

    public boolean crash(int after) {
        if (after < NO_CRASH || after >= NOTED) {
            return false;
        }
        crashAfter = after;
        return true;
    }

    public boolean recover() {
        if (!down) {
            return false;
        }
        putNoted(NOTED);
        putOn(notedSlot, notedBlock);
        down = false;
        return true;
    }

    public int raw(int disk, int stripe) {
        return isThere(disk, stripe) ? bytes[disk * STRIPES + stripe] : -1;
    }

    public int place(int volume, int lblock) {
        int slot = slotOf(volume, lblock);
        return slot < 0 ? -1 : blockOf[slot];
    }

    public int state(int what) {
        if (what >= 8 && what < 8 + DISKS) {
            return diskState[what - 8];
        }
        if (what >= 16 && what < 16 + DISKS) {
            return diskState[what - 16] == NEW ? mark[what - 16] : -1;
        }
        switch (what) {
            case 0:
                return countBlocks(0, 0);
            case 1:
                return countBlocks(2, SLOTS);
            case 2:
                return countVolumes();
            case 3:
                return countLostStripes();
            case 4:
                return badMet;
            case 5:
                return scrubNext;
            case 6:
                return down ? 1 : 0;
            case 7:
                return waitingCount;
            default:
                return -1;
        }
    }

    // Volumes, their lblocks, and the blocks of the pool that these are on.

    private boolean isVolume(int volume) {
        return volume >= 0 && volume < VOLUMES && volumeThere[volume];
    }

    /** The slot of an lblock of a volume that is there, or -1. */
    private int slotOf(int volume, int lblock) {
        if (!isVolume(volume) || lblock < 0 || lblock >= LBLOCKS) {
            return -1;
        }
        return volume * LBLOCKS + lblock;
    }

    private int leastAbsentVolume() {
        for (int volume = 0; volume < VOLUMES; volume++) {
            if (!volumeThere[volume]) {
                return volume;
            }
        }
        return -1;
    }

    private int countVolumes() {
        int count = 0;
        for (int volume = 0; volume < VOLUMES; volume++) {
            if (volumeThere[volume]) {
                count++;
            }
        }
        return count;
    }

    /** How many blocks have from least to most lblocks on them. */
    private int countBlocks(int least, int most) {
        int count = 0;
        for (int block = 0; block < BLOCKS; block++) {
            if (users[block] >= least && users[block] <= most) {
                count++;
            }
        }
        return count;
    }

    private void putOn(int slot, int block) {
        int old = blockOf[slot];
        if (old >= 0) {
            users[old]--;
        }
        if (block >= 0) {
            users[block]++;
        }
        blockOf[slot] = block;
    }

    /** The block that a write of the slot goes to, or -1 if a free one is needed and there is none. */
    private int blockToWrite(int slot) {
        int own = blockOf[slot];
        if (own >= 0 && users[own] == 1) {
            return own;
        }
        for (int block = 0; block < BLOCKS; block++) {
            if (users[block] == 0) {
                return block;
            }
        }
        return -1;
    }

    // Those that wait, the first one at index 0.

    private int waitingAt(int slot) {
        for (int at = 0; at < waitingCount; at++) {
            if (waitingSlot[at] == slot) {
                return at;
            }
        }
        return -1;
    }

    private void removeWaiting(int at) {
        waitingCount--;
        for (int i = at; i < waitingCount; i++) {
            waitingSlot[i] = waitingSlot[i + 1];
            waitingValue[i] = waitingValue[i + 1];
        }
    }

    private void forgetWaiting(int slot) {
        int at = waitingAt(slot);
        if (at >= 0) {
            removeWaiting(at);
        }
    }

    private int writeWaiting(int at) {
        int answer = writeNow(waitingSlot[at], waitingValue[at]);
        if (answer == OK) {
            removeWaiting(at);
        }
        return answer;
    }

    // Writing a byte, and the crash in the midst of it.

    private int writeNow(int slot, int value) {
        int block = blockToWrite(slot);
        if (block < 0) {
            return FULL;
        }
        if (isLost(block / DATA)) {
            return LOST;
        }
        findWorths(block / DATA);
        noteWriting(slot, block, value);
        if (crashAfter != NO_CRASH) {
            goDown();
            return DOWN;
        }
        putNoted(NOTED);
        putOn(slot, block);
        return OK;
    }

    /** Rests on the worths of the block's stripe, which were found before anything is put. */
    private void noteWriting(int slot, int block, int value) {
        worth[block % DATA] = value;
        notedSlot = slot;
        notedBlock = block;
        notedByte[0] = value;
        notedByte[1] = sumOfData();
        notedByte[2] = sumOfProducts();
    }

    private void goDown() {
        putNoted(crashAfter);
        crashAfter = NO_CRASH;
        waitingCount = 0;
        down = true;
    }

    /** Puts the first ones of the noted bytes, as many as are asked for, where they are there now. */
    private void putNoted(int many) {
        int stripe = notedBlock / DATA;
        for (int i = 0; i < many && i < NOTED; i++) {
            int seat = i == 0 ? notedBlock % DATA : P + i - 1;
            int disk = (stripe + seat) % DISKS;
            if (isThere(disk, stripe)) {
                bytes[disk * STRIPES + stripe] = notedByte[i];
            }
        }
    }

    // Disks and stripes.

    private boolean isThere(int disk, int stripe) {
        if (disk < 0 || disk >= DISKS || stripe < 0 || stripe >= STRIPES) {
            return false;
        }
        return diskState[disk] == GOOD || diskState[disk] == NEW && stripe < mark[disk];
    }

    private int countMissing(int stripe) {
        int count = 0;
        for (int disk = 0; disk < DISKS; disk++) {
            if (!isThere(disk, stripe)) {
                count++;
            }
        }
        return count;
    }

    private boolean isLost(int stripe) {
        return countMissing(stripe) > 2;
    }

    private int countLostStripes() {
        int count = 0;
        for (int stripe = 0; stripe < STRIPES; stripe++) {
            if (isLost(stripe)) {
                count++;
            }
        }
        return count;
    }

    private int leastNewDisk() {
        for (int disk = 0; disk < DISKS; disk++) {
            if (diskState[disk] == NEW) {
                return disk;
            }
        }
        return -1;
    }

    private void rebuildByte(int disk) {
        int stripe = mark[disk];
        int value = 0;
        if (!isLost(stripe)) {
            findWorths(stripe);
            value = worth[(disk + DISKS - stripe % DISKS) % DISKS];
        }
        bytes[disk * STRIPES + stripe] = value;
        mark[disk] = stripe + 1;
        if (mark[disk] == STRIPES) {
            diskState[disk] = GOOD;
        }
    }

    /** Whether the stripe was changed; a bad one is counted. */
    private boolean mendStripe(int stripe) {
        if (countMissing(stripe) > 0) {
            return false;
        }
        findWorths(stripe);
        int p = worth[P] ^ sumOfData();
        int q = worth[Q] ^ sumOfProducts();
        if (p == 0 && q == 0) {
            return false;
        }
        int seat = wrongSeat(p, q);
        if (seat < 0) {
            badMet++;
            return false;
        }
        int disk = (stripe + seat) % DISKS;
        bytes[disk * STRIPES + stripe] ^= seat == Q ? q : p;
        return true;
    }

    /** The seat of the one byte that explains p and q, not both 0, or -1 if none does. */
    private int wrongSeat(int p, int q) {
        if (q == 0) {
            return P;
        }
        if (p == 0) {
            return Q;
        }
        for (int k = 0; k < DATA; k++) {
            if (product(k, p) == q) {
                return k;
            }
        }
        return -1;
    }

    // Worths.

    /** A byte that is there can be read in a lost stripe too. */
    private int blockWorth(int block) {
        int stripe = block / DATA;
        int seat = block % DATA;
        int disk = (stripe + seat) % DISKS;
        if (isThere(disk, stripe)) {
            return bytes[disk * STRIPES + stripe];
        }
        if (isLost(stripe)) {
            return LOST;
        }
        findWorths(stripe);
        return worth[seat];
    }

    /** Sets worth, by seat, to the worths of a stripe that is not lost. */
    private void findWorths(int stripe) {
        int gap = -1;
        int nextGap = -1;
        for (int seat = DISKS - 1; seat >= 0; seat--) {
            int disk = (stripe + seat) % DISKS;
            boolean there = isThere(disk, stripe);
            // A gap counts 0, so that the sums below are those of the bytes that are there.
            worth[seat] = there ? bytes[disk * STRIPES + stripe] : 0;
            if (!there && seat < DATA) {
                nextGap = gap;
                gap = seat;
            }
        }
        boolean pThere = isThere((stripe + P) % DISKS, stripe);
        boolean qThere = isThere((stripe + Q) % DISKS, stripe);
        int p = worth[P] ^ sumOfData();
        int q = worth[Q] ^ sumOfProducts();
        if (nextGap >= 0) {
            fillTwo(gap, nextGap, p, q);
        } else if (gap >= 0 && pThere) {
            worth[gap] = p;
        } else if (gap >= 0) {
            fillByQ(gap, q);
        }
        if (!pThere) {
            worth[P] = sumOfData();
        }
        if (!qThere) {
            worth[Q] = sumOfProducts();
        }
    }

    private void fillByQ(int gap, int q) {
        for (int x = 0; x < 256; x++) {
            if (product(gap, x) == q) {
                worth[gap] = x;
            }
        }
    }

    /** P tells the sum of the two bytes; of all pairs with that sum just one makes Q right. */
    private void fillTwo(int gap, int nextGap, int p, int q) {
        for (int x = 0; x < 256; x++) {
            int products = product(gap, x) ^ product(nextGap, p ^ x);
            if (products == q) {
                worth[gap] = x;
                worth[nextGap] = p ^ x;
            }
        }
    }

    private int sumOfData() {
        return worth[0] ^ worth[1] ^ worth[2] ^ worth[3];
    }

    private int sumOfProducts() {
        int sum = 0;
        for (int k = 0; k < DATA; k++) {
            sum ^= product(k, worth[k]);
        }
        return sum;
    }

    /** The product of 2^k and x. */
    private int product(int k, int x) {
        int result = x;
        for (int i = 0; i < k; i++) {
            result <<= 1;
            if (result >= 256) {
                result ^= 285;
            }
        }
        return result;
    }
}
