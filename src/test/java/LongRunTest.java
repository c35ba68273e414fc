import java.util.ArrayList;
import java.util.Arrays;
import java.util.List;
import java.util.Random;
import java.util.TreeMap;

/**
 * Objects used for 512 calls each, every answer held against a model that is built another way: the
 * cells of a sector are a map that has only the touched ones, and a lost sector has no map's entries.
 * The seeds are fixed, so every run of the test makes the same calls.
 */
public final class LongRunTest {
    private static final int OBJECTS = 3000;
    private static final int CALLS = 512;
    private static final int[] ODD = {-1, -2, 4, 16, 64, 256, 16384, 1 << 28, Integer.MIN_VALUE, Integer.MAX_VALUE};

    private static final class Model {
        int[] draft = new int[16];
        final int[][] bytes = new int[4][16];
        final List<TreeMap<Integer, Integer>> cells = new ArrayList<>();
        final boolean[] gone = new boolean[4];

        Model() {
            for (int s = 0; s < 4; s++) {
                cells.add(new TreeMap<>());
            }
        }

        static boolean in(int v, int least, int greatest) {
            return least <= v && v <= greatest;
        }

        void store(int s, int[] content) {
            bytes[s] = content.clone();
            cells.get(s).clear();
            gone[s] = false;
        }

        long spoiled(int s) {
            return gone[s] ? 64 : cells.get(s).values().stream().filter(d -> d != 0).count();
        }

        long lost() {
            for (int s = 0; s < 4; s++) {
                if (gone[s]) {
                    return s;
                }
            }
            return -1;
        }

        long damage(int s, int cell, int how) {
            if (!in(s, 0, 3) || !in(cell, 0, 63) || !in(how, 1, 16383) || gone[s]) {
                return -1;
            }
            if (!cells.get(s).containsKey(cell) && cells.get(s).size() == 8) {
                return -2;
            }
            cells.get(s).merge(cell, how, (a, b) -> a ^ b);
            return cells.get(s).size();
        }

        long answer(int method, int a, int b, int c) {
            boolean sector = in(a, 0, 3);
            boolean both = sector && in(b, 0, 3);
            switch (method) {
                case 0:
                    if (!in(a, 0, 15) || !in(b, 0, 255)) {
                        return 0;
                    }
                    draft[a] = b;
                    return 1;
                case 1:
                    return in(a, 0, 15) ? draft[a] : -1;
                case 2:
                    if (sector) {
                        store(a, draft);
                    }
                    return sector ? 1 : 0;
                case 3:
                    if (sector) {
                        draft = bytes[a].clone();
                    }
                    return sector ? spoiled(a) : -1;
                case 4:
                    return damage(a, b, c);
                case 5:
                    if (!sector || lost() >= 0) {
                        return 0;
                    }
                    gone[a] = true;
                    cells.get(a).clear();
                    return 1;
                case 6:
                    long before = sector ? spoiled(a) : -1;
                    if (sector) {
                        store(a, bytes[a]);
                    }
                    return before;
                case 7:
                    return sector && in(b, 0, 15) ? bytes[a][b] : -1;
                case 8:
                    if (both) {
                        store(b, bytes[a]);
                    }
                    return both ? 1 : 0;
                case 9:
                    return both && Arrays.equals(bytes[a], bytes[b]) ? 1 : 0;
                case 10:
                    if (both) {
                        int[] kept = bytes[a];
                        store(a, bytes[b]);
                        store(b, kept);
                    }
                    return both ? 1 : 0;
                case 11:
                    return sector ? cells.get(a).size() : -1;
                case 12:
                    return sector ? spoiled(a) : -1;
                case 13:
                    return lost();
                case 14:
                    long total = -1;
                    for (int i = 0; sector && i < 16; i++) {
                        total = (i == 0 ? 0 : total) + (long) bytes[a][i] * (i + 1);
                    }
                    return total;
                default:
                    for (int i = 15, found = -1; sector && i >= -1; i--) {
                        if (i < 0 || i < c) {
                            return found;
                        }
                        found = bytes[a][i] == b ? i : found;
                    }
                    return -1;
            }
        }
    }

    private static final String[] NAMES = {"put", "get", "write", "read", "damage", "lose", "scrub", "byteOf",
        "copy", "same", "swap", "touched", "spoiled", "lost", "sum", "find"};
    // How often each method is called: damage most of all, so that sectors fill up.
    private static final int[] WEIGHTS = {8, 3, 2, 2, 24, 2, 1, 6, 1, 2, 1, 4, 4, 3, 3, 4};

    private static long answer(SectorChain x, int method, int a, int b, int c) {
        switch (method) {
            case 0: return x.put(a, b) ? 1 : 0;
            case 1: return x.get(a);
            case 2: return x.write(a) ? 1 : 0;
            case 3: return x.read(a);
            case 4: return x.damage(a, b, c);
            case 5: return x.lose(a) ? 1 : 0;
            case 6: return x.scrub(a);
            case 7: return x.byteOf(a, b);
            case 8: return x.copy(a, b) ? 1 : 0;
            case 9: return x.same(a, b) ? 1 : 0;
            case 10: return x.swap(a, b) ? 1 : 0;
            case 11: return x.touched(a);
            case 12: return x.spoiled(a);
            case 13: return x.lost();
            case 14: return x.sum(a);
            default: return x.find(a, b, c);
        }
    }

    private static int pickMethod(Random random) {
        int left = random.nextInt(Arrays.stream(WEIGHTS).sum());
        int method = 0;
        while (left >= WEIGHTS[method]) {
            left -= WEIGHTS[method++];
        }
        return method;
    }

    private static int pick(Random random, int bound) {
        return random.nextInt(25) == 0 ? ODD[random.nextInt(ODD.length)] : random.nextInt(bound);
    }

    private static int pickSecond(Random random, int method) {
        switch (method) {
            // Few values and few cells, so that finds hit and cells are damaged again.
            case 0: case 15: return pick(random, random.nextBoolean() ? 4 : 256);
            case 4: return pick(random, random.nextBoolean() ? 10 : 64);
            case 7: return pick(random, 16);
            default: return pick(random, 4);
        }
    }

    private static int pickThird(Random random, int method) {
        return method == 4 ? pick(random, random.nextBoolean() ? 3 : 16384) : pick(random, 18);
    }

    private static boolean runAgrees(int seed, int[] seen) {
        Random random = new Random(seed);
        SectorChain x = new SectorChain();
        Model model = new Model();
        for (int call = 1; call <= CALLS; call++) {
            int method = pickMethod(random);
            int a = pick(random, method <= 1 ? 16 : 4);
            int b = pickSecond(random, method);
            int c = pickThird(random, method);
            long want = model.answer(method, a, b, c);
            long got = answer(x, method, a, b, c);
            if (got != want) {
                System.out.println("seed " + seed + ", call " + call + ": " + NAMES[method] + " of (" + a + ", " + b
                    + ", " + c + ") answered " + got + ", due is " + want);
                return false;
            }
            if (method == 4 && want == -2) {
                seen[0]++;
            }
            if (method == 3 && want == 64) {
                seen[1]++;
            }
        }
        return true;
    }

    public static void main(String[] args) {
        int wrong = 0;
        int[] seen = new int[2];
        for (int seed = 1; seed <= OBJECTS; seed++) {
            if (!runAgrees(seed, seen)) {
                wrong++;
            }
        }
        // A run that never fills or reads back a lost sector would test little.
        if (seen[0] == 0 || seen[1] == 0) {
            System.out.println("the runs met no full sector or read no lost one");
            wrong++;
        }
        System.out.println(wrong == 0 ? "all runs are as due" : wrong + " runs are not as due");
        if (wrong != 0) {
            System.exit(1);
        }
    }
}
