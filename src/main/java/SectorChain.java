/**
 * Keeps bytes in sectors whose cells get damaged, and brings them back.
 *
 * How the state is held is free, so a sector's bytes are held beside a record of what was done to
 * its cells: damage changes the record alone, and the bytes never have to be worked out of it.
 */
public final class SectorChain {
    public static final int BAD = -1;
    public static final int FULL = -2;

    private static final int SECTORS = 4;
    private static final int BYTES = 16;
    private static final int CELLS = 64;
    private static final int ALL_BYTES = 64;
    private static final int ALL_CELLS = 256;
    private static final int GREATEST_BYTE = 255;
    private static final int ALL_DIGITS = 16383;
    private static final int MOST_TOUCHED = 8;

    private final int[] draft = new int[BYTES];
    private final int[] held = new int[ALL_BYTES];
    // What a cell holds is never asked for, only whether it differs from what was written, so the
    // digits turned over since then are enough.
    private final int[] turned = new int[ALL_CELLS];
    // Kept apart from the turned digits: a cell damaged twice may hold the same again.
    private final boolean[] hit = new boolean[ALL_CELLS];
    private int lostSector = BAD;

    public SectorChain() {
    }

    public boolean put(int i, int v) {
        if (!isPlace(i) || v < 0 || v > GREATEST_BYTE) {
            return false;
        }
        draft[i] = v;
        return true;
    }

    public int get(int i) {
        return isPlace(i) ? draft[i] : BAD;
    }

    public boolean write(int s) {
        if (!isSector(s)) {
            return false;
        }
        int first = s * BYTES;
        for (int i = 0; i < BYTES; i++) {
            held[first + i] = draft[i];
        }
        renew(s);
        return true;
    }

    public int read(int s) {
        if (!isSector(s)) {
            return BAD;
        }
        int first = s * BYTES;
        for (int i = 0; i < BYTES; i++) {
            draft[i] = held[first + i];
        }
        return countSpoiled(s);
    }

    public int damage(int s, int cell, int how) {
        if (!isSector(s) || !isCell(cell) || !isDamage(how) || s == lostSector) {
            return BAD;
        }
        int at = s * CELLS + cell;
        if (!hit[at] && countTouched(s) >= MOST_TOUCHED) {
            return FULL;
        }
        turned[at] ^= how;
        hit[at] = true;
        return countTouched(s);
    }

    public boolean lose(int s) {
        if (!isSector(s) || lostSector != BAD) {
            return false;
        }
        forgetDamage(s);
        lostSector = s;
        return true;
    }

    public int scrub(int s) {
        if (!isSector(s)) {
            return BAD;
        }
        int before = countSpoiled(s);
        renew(s);
        return before;
    }

    public int byteOf(int s, int i) {
        return isSector(s) && isPlace(i) ? held[s * BYTES + i] : BAD;
    }

    public boolean copy(int s, int t) {
        if (!isSector(s) || !isSector(t)) {
            return false;
        }
        int source = s * BYTES;
        int target = t * BYTES;
        for (int i = 0; i < BYTES; i++) {
            held[target + i] = held[source + i];
        }
        renew(t);
        return true;
    }

    public boolean same(int s, int t) {
        if (!isSector(s) || !isSector(t)) {
            return false;
        }
        int one = s * BYTES;
        int other = t * BYTES;
        for (int i = 0; i < BYTES; i++) {
            if (held[one + i] != held[other + i]) {
                return false;
            }
        }
        return true;
    }

    public boolean swap(int s, int t) {
        if (!isSector(s) || !isSector(t)) {
            return false;
        }
        int one = s * BYTES;
        int other = t * BYTES;
        for (int i = 0; i < BYTES; i++) {
            int kept = held[one + i];
            held[one + i] = held[other + i];
            held[other + i] = kept;
        }
        renew(s);
        renew(t);
        return true;
    }

    public int touched(int s) {
        return isSector(s) ? countTouched(s) : BAD;
    }

    public int spoiled(int s) {
        return isSector(s) ? countSpoiled(s) : BAD;
    }

    public int lost() {
        return lostSector;
    }

    public int sum(int s) {
        if (!isSector(s)) {
            return BAD;
        }
        int first = s * BYTES;
        int total = 0;
        for (int i = 0; i < BYTES; i++) {
            total += held[first + i] * (i + 1);
        }
        return total;
    }

    public int find(int s, int v, int from) {
        if (!isSector(s)) {
            return BAD;
        }
        int first = s * BYTES;
        int start = from < 0 ? 0 : from;
        for (int i = start; i < BYTES; i++) {
            if (held[first + i] == v) {
                return i;
            }
        }
        return BAD;
    }

    private static boolean isSector(int s) {
        return s >= 0 && s < SECTORS;
    }

    private static boolean isPlace(int i) {
        return i >= 0 && i < BYTES;
    }

    private static boolean isCell(int cell) {
        return cell >= 0 && cell < CELLS;
    }

    private static boolean isDamage(int how) {
        return how >= 1 && how <= ALL_DIGITS;
    }

    private void renew(int s) {
        forgetDamage(s);
        if (lostSector == s) {
            lostSector = BAD;
        }
    }

    private void forgetDamage(int s) {
        int first = s * CELLS;
        for (int c = 0; c < CELLS; c++) {
            turned[first + c] = 0;
            hit[first + c] = false;
        }
    }

    private int countTouched(int s) {
        int first = s * CELLS;
        int count = 0;
        for (int c = 0; c < CELLS; c++) {
            if (hit[first + c]) {
                count++;
            }
        }
        return count;
    }

    private int countSpoiled(int s) {
        if (s == lostSector) {
            return CELLS;
        }
        int first = s * CELLS;
        int count = 0;
        for (int c = 0; c < CELLS; c++) {
            if (turned[first + c] != 0) {
                count++;
            }
        }
        return count;
    }
}
