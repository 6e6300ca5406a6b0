import java.util.ArrayList;
import java.util.LinkedHashMap;
import java.util.List;
import java.util.Map;
import java.util.TreeMap;

/**
 * The document once more, written apart from the class and in another way: a byte that is not there is
 * null, users of a block are searched for, and gaps in a stripe are filled by dividing in GF(256).
 */
final class PoolModel {
    private static final int OK = 0;
    private static final int NONE = -1;
    private static final int FULL = -2;
    private static final int LOST = -3;
    private static final int DOWN = -4;

    private record Lblock(int volume, int number) {}

    private record Note(Lblock lblock, int block, int[] bytes) {}

    private final Integer[][] cell = new Integer[6][16];
    private final String[] kind = {"good", "good", "good", "good", "good", "good"};
    private final Map<Integer, Integer[]> volumes = new TreeMap<>();
    private final Map<Lblock, Integer> waiting = new LinkedHashMap<>();
    private int most = 0;
    private int crash = -1;
    private Note unfinished = null;
    private int next = 0;
    private int bad = 0;

    PoolModel() {
        for (Integer[] disk : cell) {
            java.util.Arrays.fill(disk, 0);
        }
        volumes.put(0, new Integer[20]);
    }

    int write(int volume, int lblock, int value) {
        if (unfinished != null) {
            return DOWN;
        }
        if (!exists(volume, lblock)) {
            return NONE;
        }
        Lblock key = new Lblock(volume, lblock);
        if (most == 0) {
            return toDisks(key, value & 255);
        }
        if (!waiting.containsKey(key) && waiting.size() == most) {
            int answer = turnOf(waiting.keySet().iterator().next());
            if (answer != OK) {
                return answer;
            }
        }
        waiting.remove(key);
        waiting.put(key, value & 255);
        return OK;
    }

    boolean delay(int n) {
        if (n < 0 || n > 6 || waiting.size() > n) {
            return false;
        }
        most = n;
        return true;
    }

    int flush(int n) {
        if (unfinished != null) {
            return DOWN;
        }
        if (n < 1 || n > 6) {
            return NONE;
        }
        int count = 0;
        for (Lblock key : new ArrayList<>(waiting.keySet())) {
            if (count == n || turnOf(key) != OK) {
                break;
            }
            count++;
        }
        return count;
    }

    int read(int volume, int lblock) {
        if (unfinished != null) {
            return DOWN;
        }
        if (!exists(volume, lblock)) {
            return NONE;
        }
        Integer held = waiting.get(new Lblock(volume, lblock));
        if (held != null) {
            return held;
        }
        Integer block = volumes.get(volume)[lblock];
        if (block == null) {
            return 0;
        }
        Integer there = cell[(block / 4 + block % 4) % 6][block / 4];
        if (there != null) {
            return there;
        }
        return missing(block / 4) > 2 ? LOST : worths(block / 4)[block % 4];
    }

    int trim(int volume, int lblock) {
        if (unfinished != null) {
            return DOWN;
        }
        if (!exists(volume, lblock)) {
            return NONE;
        }
        volumes.get(volume)[lblock] = null;
        waiting.remove(new Lblock(volume, lblock));
        return OK;
    }

    int snapshot(int volume) {
        if (unfinished != null) {
            return DOWN;
        }
        if (!volumes.containsKey(volume)) {
            return NONE;
        }
        for (Lblock key : new ArrayList<>(waiting.keySet())) {
            int answer = key.volume() == volume ? turnOf(key) : OK;
            if (answer != OK) {
                return answer;
            }
        }
        for (int copy = 0; copy < 6; copy++) {
            if (!volumes.containsKey(copy)) {
                volumes.put(copy, volumes.get(volume).clone());
                return copy;
            }
        }
        return FULL;
    }

    int drop(int volume) {
        if (unfinished != null) {
            return DOWN;
        }
        if (!volumes.containsKey(volume)) {
            return NONE;
        }
        int before = state(0);
        volumes.remove(volume);
        waiting.keySet().removeIf(key -> key.volume() == volume);
        return state(0) - before;
    }

    boolean change(int disk, boolean fails) {
        if (disk < 0 || disk > 5 || fails == kind[disk].equals("failed")) {
            return false;
        }
        kind[disk] = fails ? "failed" : "new";
        cell[disk] = new Integer[16];
        return true;
    }

    int rebuild(int n) {
        if (unfinished != null) {
            return DOWN;
        }
        if (n < 1 || n > 16) {
            return NONE;
        }
        int count = 0;
        while (count < n && List.of(kind).contains("new")) {
            int disk = List.of(kind).indexOf("new");
            int stripe = mark(disk);
            int seat = Math.floorMod(disk - stripe, 6);
            cell[disk][stripe] = missing(stripe) > 2 ? 0 : worths(stripe)[seat];
            if (stripe == 15) {
                kind[disk] = "good";
            }
            count++;
        }
        return count;
    }

    boolean spoil(int disk, int stripe, int x) {
        if (raw(disk, stripe) < 0) {
            return false;
        }
        cell[disk][stripe] ^= x & 255;
        return true;
    }

    int scrub(int n) {
        if (unfinished != null) {
            return DOWN;
        }
        if (n < 1 || n > 16) {
            return NONE;
        }
        bad = 0;
        int changed = 0;
        for (int i = 0; i < n; i++) {
            int s = next;
            next = next == 15 ? 0 : next + 1;
            if (missing(s) > 0) {
                continue;
            }
            int[] w = worths(s);
            int p = w[4] ^ Sample.p(w[0], w[1], w[2], w[3]);
            int q = w[5] ^ Sample.q(w[0], w[1], w[2], w[3]);
            if (p == 0 && q == 0) {
                continue;
            }
            int ratio = p == 0 || q == 0 ? 0 : quotient(q, p);
            if (q == 0) {
                cell[(s + 4) % 6][s] ^= p;
            } else if (p == 0) {
                cell[(s + 5) % 6][s] ^= q;
            } else if (List.of(1, 2, 4, 8).contains(ratio)) {
                cell[(s + List.of(1, 2, 4, 8).indexOf(ratio)) % 6][s] ^= p;
            } else {
                bad++;
                continue;
            }
            changed++;
        }
        return changed;
    }

    boolean crash(int after) {
        if (!List.of(-1, 0, 1, 2).contains(after)) {
            return false;
        }
        crash = after;
        return true;
    }

    boolean recover() {
        if (unfinished == null) {
            return false;
        }
        finish(unfinished);
        unfinished = null;
        return true;
    }

    int raw(int disk, int stripe) {
        if (disk < 0 || disk > 5 || stripe < 0 || stripe > 15 || cell[disk][stripe] == null) {
            return -1;
        }
        return cell[disk][stripe];
    }

    int place(int volume, int lblock) {
        if (!exists(volume, lblock) || volumes.get(volume)[lblock] == null) {
            return -1;
        }
        return volumes.get(volume)[lblock];
    }

    int state(int what) {
        int count = 0;
        if (what == 0 || what == 1) {
            for (int block = 0; block < 64; block++) {
                count += (what == 0 ? users(block) == 0 : users(block) > 1) ? 1 : 0;
            }
            return count;
        }
        if (what == 3) {
            for (int stripe = 0; stripe < 16; stripe++) {
                count += missing(stripe) > 2 ? 1 : 0;
            }
            return count;
        }
        if (what >= 8 && what <= 13) {
            return List.of("good", "failed", "new").indexOf(kind[what - 8]);
        }
        if (what >= 16 && what <= 21) {
            return kind[what - 16].equals("new") ? mark(what - 16) : -1;
        }
        return switch (what) {
            case 2 -> volumes.size();
            case 4 -> bad;
            case 5 -> next;
            case 6 -> unfinished == null ? 0 : 1;
            case 7 -> waiting.size();
            default -> -1;
        };
    }

    private boolean exists(int volume, int lblock) {
        return volumes.containsKey(volume) && lblock >= 0 && lblock < 20;
    }

    private int users(int block) {
        int count = 0;
        for (Integer[] blocks : volumes.values()) {
            for (Integer b : blocks) {
                count += b != null && b == block ? 1 : 0;
            }
        }
        return count;
    }

    private int leastFree() {
        int block = 0;
        while (block < 64 && users(block) > 0) {
            block++;
        }
        return block;
    }

    private int mark(int disk) {
        int mark = 0;
        while (cell[disk][mark] != null) {
            mark++;
        }
        return mark;
    }

    private int turnOf(Lblock key) {
        int answer = toDisks(key, waiting.get(key));
        if (answer == OK) {
            waiting.remove(key);
        }
        return answer;
    }

    private int toDisks(Lblock key, int value) {
        Integer own = volumes.get(key.volume())[key.number()];
        boolean stays = own != null && users(own) == 1;
        int block = stays ? own : leastFree();
        if (block == 64) {
            return FULL;
        }
        if (missing(block / 4) > 2) {
            return LOST;
        }
        int[] w = worths(block / 4);
        w[block % 4] = value;
        int[] bytes = {value, Sample.p(w[0], w[1], w[2], w[3]), Sample.q(w[0], w[1], w[2], w[3])};
        Note note = new Note(key, block, bytes);
        if (crash >= 0) {
            put(note, crash);
            unfinished = note;
            crash = -1;
            waiting.clear();
            return DOWN;
        }
        finish(note);
        return OK;
    }

    private void finish(Note note) {
        put(note, 3);
        volumes.get(note.lblock().volume())[note.lblock().number()] = note.block();
    }

    private void put(Note note, int many) {
        int s = note.block() / 4;
        int[] disks = {(s + note.block() % 4) % 6, (s + 4) % 6, (s + 5) % 6};
        for (int i = 0; i < many; i++) {
            if (cell[disks[i]][s] != null) {
                cell[disks[i]][s] = note.bytes()[i];
            }
        }
    }

    private int missing(int stripe) {
        int count = 0;
        for (Integer[] disk : cell) {
            count += disk[stripe] == null ? 1 : 0;
        }
        return count;
    }

    private int[] worths(int s) {
        int[] w = new int[6];
        List<Integer> gaps = new ArrayList<>();
        for (int seat = 0; seat < 6; seat++) {
            Integer there = cell[(s + seat) % 6][s];
            w[seat] = there == null ? 0 : there;
            if (there == null) {
                gaps.add(seat);
            }
        }
        int p = w[4] ^ Sample.p(w[0], w[1], w[2], w[3]);
        int q = w[5] ^ Sample.q(w[0], w[1], w[2], w[3]);
        List<Integer> data = gaps.stream().filter(gap -> gap < 4).toList();
        if (data.size() == 2) {
            int a = 1 << data.get(0);
            int b = 1 << data.get(1);
            w[data.get(0)] = quotient(q ^ Sample.product(b, p), a ^ b);
            w[data.get(1)] = p ^ w[data.get(0)];
        } else if (data.size() == 1) {
            w[data.get(0)] = gaps.contains(4) ? quotient(q, 1 << data.get(0)) : p;
        }
        w[4] = gaps.contains(4) ? Sample.p(w[0], w[1], w[2], w[3]) : w[4];
        w[5] = gaps.contains(5) ? Sample.q(w[0], w[1], w[2], w[3]) : w[5];
        return w;
    }

    /** a / b: b to the power of 254 is the inverse of b. */
    private static int quotient(int a, int b) {
        int result = a;
        for (int i = 0; i < 254; i++) {
            result = Sample.product(result, b);
        }
        return result;
    }
}
