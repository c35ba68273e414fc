import java.util.Arrays;
import java.util.function.Consumer;

/** Each promise of the document by itself: ordinary inputs, the edges it names, and wrong inputs. */
public final class PromiseTest {
    private static final int BAD = -1;
    private static final int FULL = -2;
    private static final int[] NOT_SECTORS = {-1, 4, 5, 16, 64, 1 << 30, Integer.MIN_VALUE, Integer.MAX_VALUE};
    private static final int[] NOT_PLACES = {-1, 16, 17, 64, 1 << 28, Integer.MIN_VALUE, Integer.MAX_VALUE};
    private static final int[] NOT_BYTES = {-1, 256, 257, -256, Integer.MIN_VALUE, Integer.MAX_VALUE};

    private static int wrong = 0;

    public static void main(String[] args) {
        constants();
        promise1NewObject();
        promise2Put();
        promise3Get();
        promise4Write();
        promise5Read();
        promise6Damage();
        promise6DamageRefused();
        promise7Lose();
        promise8Scrub();
        promise9ByteOf();
        promise10Copy();
        promise11Same();
        promise12Swap();
        promise13Touched();
        promise14Spoiled();
        promise15Lost();
        promise16Sum();
        promise17Find();
        promise18RefusalsChangeNothing();
        promise18QuestionsChangeNothing();
        promise18ObjectsStandApart();
        System.out.println(wrong == 0 ? "all answers are as due" : wrong + " answers are not as due");
        if (wrong != 0) {
            System.exit(1);
        }
    }

    private static void due(String call, long got, long want) {
        if (got != want) {
            wrong++;
            System.out.println(call + " answered " + got + ", due is " + want);
        }
    }

    private static void due(String call, boolean got, boolean want) {
        due(call, got ? 1L : 0L, want ? 1L : 0L);
    }

    private static void dueState(String after, int[] got, int[] want) {
        if (!Arrays.equals(got, want)) {
            wrong++;
            System.out.println("after " + after + " the state is " + Arrays.toString(got) + ", due is " + Arrays.toString(want));
        }
    }

    /** Byte i of the pattern that a seed stands for; different seeds differ at every place. */
    private static int pattern(int seed, int i) {
        return (seed * 37 + i * 11 + 5) & 255;
    }

    private static void putPattern(SectorChain x, int seed) {
        for (int i = 0; i < 16; i++) {
            x.put(i, pattern(seed, i));
        }
    }

    private static void writePattern(SectorChain x, int s, int seed) {
        putPattern(x, seed);
        x.write(s);
    }

    private static void dueDraft(String when, SectorChain x, int seed) {
        for (int i = 0; i < 16; i++) {
            due(when + ": get(" + i + ")", x.get(i), pattern(seed, i));
        }
    }

    private static void dueSector(String when, SectorChain x, int s, int seed) {
        for (int i = 0; i < 16; i++) {
            due(when + ": byteOf(" + s + ", " + i + ")", x.byteOf(s, i), pattern(seed, i));
        }
    }

    private static void dueHealth(String when, SectorChain x, int s, int touched, int spoiled) {
        due(when + ": touched(" + s + ")", x.touched(s), touched);
        due(when + ": spoiled(" + s + ")", x.spoiled(s), spoiled);
    }

    private static void damageCells(SectorChain x, int s, int count) {
        for (int c = 0; c < count; c++) {
            x.damage(s, c * 8 + s, 1 + c * 2000);
        }
    }

    /** Four different sectors and another draft; sector 0 full of damage, 1 with a healed cell, 2 lost. */
    private static SectorChain busy() {
        SectorChain x = new SectorChain();
        for (int s = 0; s < 4; s++) {
            writePattern(x, s, s + 1);
        }
        putPattern(x, 9);
        damageCells(x, 0, 8);
        damageCells(x, 1, 3);
        x.damage(1, 1, 1);
        x.lose(2);
        return x;
    }

    /** All that can be asked for without a change. */
    private static int[] state(SectorChain x) {
        int[] all = new int[89];
        int n = 0;
        for (int i = 0; i < 16; i++) {
            all[n++] = x.get(i);
        }
        for (int s = 0; s < 4; s++) {
            for (int i = 0; i < 16; i++) {
                all[n++] = x.byteOf(s, i);
            }
            all[n++] = x.touched(s);
            all[n++] = x.spoiled(s);
        }
        all[n] = x.lost();
        return all;
    }

    private static void keeps(String call, Consumer<SectorChain> calls) {
        SectorChain x = busy();
        int[] before = state(x);
        calls.accept(x);
        dueState(call, state(x), before);
    }

    private static void constants() {
        due("BAD", SectorChain.BAD, BAD);
        due("FULL", SectorChain.FULL, FULL);
    }

    private static void promise1NewObject() {
        int[] zeros = new int[89];
        zeros[88] = BAD;
        dueState("new SectorChain()", state(new SectorChain()), zeros);
    }

    private static void promise2Put() {
        SectorChain x = new SectorChain();
        for (int i = 0; i < 16; i++) {
            due("put(" + i + ")", x.put(i, pattern(1, i)), true);
        }
        dueDraft("put", x, 1);
        for (int v : new int[] {0, 1, 127, 128, 254, 255}) {
            due("put(0, " + v + ")", x.put(0, v), true);
            due("get(0) after put(0, " + v + ")", x.get(0), v);
            due("put(15, " + v + ")", x.put(15, v), true);
            due("get(15) after put(15, " + v + ")", x.get(15), v);
        }
        for (int s = 0; s < 4; s++) {
            due("sum(" + s + ") with nothing written", x.sum(s), 0);
        }
        for (int i : NOT_PLACES) {
            due("put(" + i + ", 1)", x.put(i, 1), false);
        }
        for (int v : NOT_BYTES) {
            due("put(3, " + v + ")", x.put(3, v), false);
            due("put(16, " + v + ")", x.put(16, v), false);
        }
        due("get(3) after refused puts", x.get(3), pattern(1, 3));
    }

    private static void promise3Get() {
        SectorChain x = new SectorChain();
        putPattern(x, 2);
        dueDraft("get", x, 2);
        dueDraft("get again", x, 2);
        for (int i : NOT_PLACES) {
            due("get(" + i + ")", x.get(i), BAD);
        }
    }

    private static void promise4Write() {
        for (int s = 0; s < 4; s++) {
            SectorChain x = new SectorChain();
            putPattern(x, 3);
            due("write(" + s + ")", x.write(s), true);
            for (int t = 0; t < 4; t++) {
                due("sum(" + t + ") is 0 after write(" + s + ")", x.sum(t) == 0, t != s);
            }
            dueDraft("write keeps the draft", x, 3);
            x.put(0, 0);
            dueSector("write, then put", x, s, 3);
            damageCells(x, s, 8);
            writePattern(x, s, 4);
            dueHealth("write of a damaged sector", x, s, 0, 0);
            dueSector("write of a damaged sector", x, s, 4);
            damageCells(x, s, 8);
            dueHealth("damage after write", x, s, 8, 8);
            x.lose(s);
            writePattern(x, s, 5);
            due("lost() after write(" + s + ")", x.lost(), BAD);
            dueHealth("write of a lost sector", x, s, 0, 0);
            dueSector("write of a lost sector", x, s, 5);
        }
        SectorChain x = busy();
        x.write(0);
        due("lost() after write of another", x.lost(), 2);
        dueHealth("write of another", x, 1, 3, 2);
        dueSector("write of another", x, 2, 3);
        for (int s : NOT_SECTORS) {
            due("write(" + s + ")", x.write(s), false);
        }
    }

    private static void promise5Read() {
        SectorChain x = busy();
        int[] spoiled = {8, 2, 64, 0};
        int[] touched = {8, 3, 0, 0};
        for (int s = 0; s < 4; s++) {
            due("read(" + s + ")", x.read(s), spoiled[s]);
            dueDraft("read(" + s + ")", x, s + 1);
            dueHealth("read leaves the sector", x, s, touched[s], spoiled[s]);
            dueSector("read leaves the sector", x, s, s + 1);
        }
        due("lost() after read(2)", x.lost(), 2);
        x.put(0, 1);
        due("put after read leaves the sector", x.byteOf(3, 0), pattern(4, 0));
        for (int s : NOT_SECTORS) {
            due("read(" + s + ")", x.read(s), BAD);
        }
    }

    private static void promise6Damage() {
        for (int cell = 0; cell < 64; cell++) {
            SectorChain x = new SectorChain();
            writePattern(x, 1, 6);
            due("damage(1, " + cell + ", 1)", x.damage(1, cell, 1), 1);
            dueHealth("damage of cell " + cell, x, 1, 1, 1);
            due("damage(1, " + cell + ", 16383)", x.damage(1, cell, 16383), 1);
            due("damage(1, " + cell + ", 16382)", x.damage(1, cell, 16382), 1);
            dueHealth("cell " + cell + " holds the same again", x, 1, 1, 0);
            dueSector("damage", x, 1, 6);
            dueHealth("damage of another sector", x, 0, 0, 0);
            dueHealth("damage of another sector", x, 2, 0, 0);
        }
        for (int digit = 0; digit < 14; digit++) {
            SectorChain x = new SectorChain();
            x.damage(3, 63, 1 << digit);
            due("spoiled(3) by digit " + digit, x.spoiled(3), 1);
            x.damage(3, 63, 1 << digit);
            due("spoiled(3) by digit " + digit + " twice", x.spoiled(3), 0);
        }
        for (int start = 0; start <= 56; start += 7) {
            SectorChain x = new SectorChain();
            for (int s = 0; s < 4; s++) {
                writePattern(x, s, s + 1);
                for (int n = 0; n < 8; n++) {
                    due("damage " + (n + 1) + " of sector " + s, x.damage(s, start + n, 16383 - n), n + 1);
                }
            }
            for (int s = 0; s < 4; s++) {
                dueSector("eight cells damaged", x, s, s + 1);
            }
        }
    }

    private static void promise6DamageRefused() {
        SectorChain x = new SectorChain();
        damageCells(x, 0, 8);
        due("damage of a ninth cell", x.damage(0, 63, 1), FULL);
        dueHealth("damage of a ninth cell", x, 0, 8, 8);
        due("damage of one of the eight", x.damage(0, 0, 1), 8);
        dueHealth("damage of one of the eight", x, 0, 8, 7);
        due("a ninth cell while one of eight is healed", x.damage(0, 63, 1), FULL);
        due("damage of the next sector", x.damage(1, 63, 1), 1);
        for (int s : NOT_SECTORS) {
            due("damage(" + s + ", 0, 1)", x.damage(s, 0, 1), BAD);
        }
        for (int cell : new int[] {-1, 64, 65, 256, 1 << 26, Integer.MIN_VALUE, Integer.MAX_VALUE}) {
            due("damage(0, " + cell + ", 1) of a full sector", x.damage(0, cell, 1), BAD);
            due("damage(1, " + cell + ", 1)", x.damage(1, cell, 1), BAD);
        }
        for (int how : new int[] {0, -1, 16384, 16385, 32767, Integer.MIN_VALUE, Integer.MAX_VALUE}) {
            due("damage(0, 63, " + how + ") of a full sector", x.damage(0, 63, how), BAD);
            due("damage(1, 0, " + how + ")", x.damage(1, 0, how), BAD);
        }
        dueHealth("refused damage", x, 1, 1, 1);
        x.lose(0);
        due("damage of a lost sector that was full", x.damage(0, 63, 1), BAD);
        due("damage beside a lost sector", x.damage(1, 62, 1), 2);
        x.scrub(0);
        due("damage of a sector that was lost", x.damage(0, 63, 1), 1);
    }

    private static void promise7Lose() {
        for (int s = 0; s < 4; s++) {
            SectorChain x = new SectorChain();
            for (int t = 0; t < 4; t++) {
                writePattern(x, t, t + 1);
                damageCells(x, t, 8);
            }
            due("lose(" + s + ")", x.lose(s), true);
            due("lost() after lose(" + s + ")", x.lost(), s);
            dueHealth("lose", x, s, 0, 64);
            for (int t = 0; t < 4; t++) {
                dueSector("lose(" + s + ")", x, t, t + 1);
                due("lose(" + t + ") while " + s + " is lost", x.lose(t), false);
            }
            due("lost() after refused losses", x.lost(), s);
            dueHealth("lose of another", x, (s + 1) % 4, 8, 8);
            x.scrub(s);
            due("lose(" + s + ") again", x.lose(s), true);
        }
        SectorChain x = new SectorChain();
        for (int s : NOT_SECTORS) {
            due("lose(" + s + ")", x.lose(s), false);
            due("lost() after lose(" + s + ")", x.lost(), BAD);
        }
    }

    private static void promise8Scrub() {
        SectorChain x = busy();
        int[] spoiled = {8, 2, 64, 0};
        for (int s = 0; s < 4; s++) {
            due("lost() before scrub(" + s + ")", x.lost(), s <= 2 ? 2 : BAD);
            due("scrub(" + s + ")", x.scrub(s), spoiled[s]);
            dueHealth("scrub", x, s, 0, 0);
            dueSector("scrub", x, s, s + 1);
            due("scrub(" + s + ") again", x.scrub(s), 0);
        }
        dueDraft("scrub keeps the draft", x, 9);
        for (int s = 0; s < 4; s++) {
            dueSector("all scrubbed", x, s, s + 1);
            due("damage after scrub", x.damage(s, 0, 1), 1);
        }
        for (int s : NOT_SECTORS) {
            due("scrub(" + s + ")", x.scrub(s), BAD);
        }
    }

    private static void promise9ByteOf() {
        SectorChain x = busy();
        for (int s = 0; s < 4; s++) {
            dueSector("byteOf", x, s, s + 1);
            for (int i : NOT_PLACES) {
                due("byteOf(" + s + ", " + i + ")", x.byteOf(s, i), BAD);
            }
        }
        for (int s : NOT_SECTORS) {
            due("byteOf(" + s + ", 0)", x.byteOf(s, 0), BAD);
            due("byteOf(" + s + ", 16)", x.byteOf(s, 16), BAD);
        }
        x.put(0, 255);
        x.put(15, 0);
        x.write(3);
        due("byteOf(3, 0)", x.byteOf(3, 0), 255);
        due("byteOf(3, 15)", x.byteOf(3, 15), 0);
    }

    private static void promise10Copy() {
        int[] touched = {8, 3, 0, 0};
        int[] spoiled = {8, 2, 64, 0};
        for (int s = 0; s < 4; s++) {
            for (int t = 0; t < 4; t++) {
                String call = "copy(" + s + ", " + t + ")";
                SectorChain x = busy();
                due(call, x.copy(s, t), true);
                for (int u = 0; u < 4; u++) {
                    dueSector(call, x, u, u == t ? s + 1 : u + 1);
                    dueHealth(call, x, u, u == t ? 0 : touched[u], u == t ? 0 : spoiled[u]);
                }
                due("lost() after " + call, x.lost(), t == 2 ? BAD : 2);
                dueDraft(call, x, 9);
            }
        }
        SectorChain x = busy();
        for (int s : NOT_SECTORS) {
            due("copy(" + s + ", 0)", x.copy(s, 0), false);
            due("copy(0, " + s + ")", x.copy(0, s), false);
            due("copy(" + s + ", " + s + ")", x.copy(s, s), false);
        }
    }

    private static void promise11Same() {
        SectorChain x = busy();
        for (int s = 0; s < 4; s++) {
            for (int t = 0; t < 4; t++) {
                due("same(" + s + ", " + t + ")", x.same(s, t), s == t);
            }
        }
        x.copy(0, 3);
        due("same(0, 3) with damage in one", x.same(0, 3), true);
        due("same(3, 0) with damage in one", x.same(3, 0), true);
        x.copy(2, 1);
        due("same(1, 2) with one lost", x.same(1, 2), true);
        for (int i = 0; i < 16; i++) {
            x.read(0);
            x.put(i, x.get(i) ^ 128);
            x.write(3);
            due("same(0, 3) with byte " + i + " other", x.same(0, 3), false);
        }
        for (int s : NOT_SECTORS) {
            due("same(" + s + ", 0)", x.same(s, 0), false);
            due("same(0, " + s + ")", x.same(0, s), false);
            due("same(" + s + ", " + s + ")", x.same(s, s), false);
        }
    }

    private static void promise12Swap() {
        int[] touched = {8, 3, 0, 0};
        int[] spoiled = {8, 2, 64, 0};
        for (int s = 0; s < 4; s++) {
            for (int t = 0; t < 4; t++) {
                String call = "swap(" + s + ", " + t + ")";
                SectorChain x = busy();
                due(call, x.swap(s, t), true);
                for (int u = 0; u < 4; u++) {
                    boolean written = u == s || u == t;
                    dueSector(call, x, u, u == s ? t + 1 : u == t ? s + 1 : u + 1);
                    dueHealth(call, x, u, written ? 0 : touched[u], written ? 0 : spoiled[u]);
                }
                due("lost() after " + call, x.lost(), s == 2 || t == 2 ? BAD : 2);
                dueDraft(call, x, 9);
            }
        }
        SectorChain x = busy();
        for (int s : NOT_SECTORS) {
            due("swap(" + s + ", 0)", x.swap(s, 0), false);
            due("swap(0, " + s + ")", x.swap(0, s), false);
            due("swap(" + s + ", " + s + ")", x.swap(s, s), false);
        }
    }

    private static void promise13Touched() {
        SectorChain x = new SectorChain();
        for (int n = 1; n <= 8; n++) {
            x.damage(2, 64 - n, 7);
            due("touched(2) after " + n + " cells", x.touched(2), n);
            x.damage(2, 64 - n, 7);
            due("touched(2) with cells that hold the same again", x.touched(2), n);
        }
        due("touched(1)", x.touched(1), 0);
        due("touched(3)", x.touched(3), 0);
        x.lose(2);
        due("touched(2) when lost", x.touched(2), 0);
        x.scrub(2);
        due("touched(2) when scrubbed", x.touched(2), 0);
        for (int s : NOT_SECTORS) {
            due("touched(" + s + ")", x.touched(s), BAD);
        }
    }

    private static void promise14Spoiled() {
        SectorChain x = new SectorChain();
        for (int n = 1; n <= 8; n++) {
            x.damage(1, n * 7, 1 << n);
            due("spoiled(1) after " + n + " cells", x.spoiled(1), n);
        }
        for (int n = 1; n <= 8; n++) {
            x.damage(1, n * 7, 1 << n);
            due("spoiled(1) after " + n + " cells are back", x.spoiled(1), 8 - n);
        }
        x.damage(1, 7, 3);
        x.damage(1, 7, 1);
        due("spoiled(1) with a cell half back", x.spoiled(1), 1);
        due("spoiled(0)", x.spoiled(0), 0);
        due("spoiled(2)", x.spoiled(2), 0);
        x.lose(1);
        due("spoiled(1) when lost", x.spoiled(1), 64);
        x.write(1);
        due("spoiled(1) when written", x.spoiled(1), 0);
        for (int s : NOT_SECTORS) {
            due("spoiled(" + s + ")", x.spoiled(s), BAD);
        }
    }

    private static void promise15Lost() {
        SectorChain x = new SectorChain();
        due("lost() at first", x.lost(), BAD);
        for (int s = 0; s < 4; s++) {
            x.lose(s);
            due("lost() after lose(" + s + ")", x.lost(), s);
            x.write((s + 1) % 4);
            x.scrub((s + 2) % 4);
            x.read(s);
            due("lost() after calls on others", x.lost(), s);
            x.scrub(s);
            due("lost() after scrub(" + s + ")", x.lost(), BAD);
        }
    }

    private static void promise16Sum() {
        for (int i = 0; i < 16; i++) {
            SectorChain x = new SectorChain();
            x.put(i, 255);
            x.write(1);
            due("sum(1) with byte " + i, x.sum(1), 255 * (i + 1));
            due("sum(0)", x.sum(0), 0);
        }
        SectorChain x = new SectorChain();
        for (int i = 0; i < 16; i++) {
            x.put(i, 255);
        }
        for (int s = 0; s < 4; s++) {
            x.write(s);
            damageCells(x, s, 8);
            due("sum(" + s + ") of 255 bytes", x.sum(s), 34680);
        }
        x.lose(3);
        due("sum(3) when lost", x.sum(3), 34680);
        for (int s : NOT_SECTORS) {
            due("sum(" + s + ")", x.sum(s), BAD);
        }
    }

    private static void promise17Find() {
        SectorChain x = new SectorChain();
        x.put(0, 5);
        x.put(7, 255);
        x.put(9, 5);
        x.put(15, 5);
        x.write(2);
        damageCells(x, 2, 8);
        for (int round = 0; round < 2; round++) {
            for (int from = -3; from < 19; from++) {
                int five = from <= 0 ? 0 : from <= 9 ? 9 : from <= 15 ? 15 : BAD;
                due("find(2, 5, " + from + ")", x.find(2, 5, from), five);
                due("find(2, 255, " + from + ")", x.find(2, 255, from), from <= 7 ? 7 : BAD);
            }
            x.lose(2);
        }
        due("find(2, 0, 0)", x.find(2, 0, 0), 1);
        due("find(2, 5, least)", x.find(2, 5, Integer.MIN_VALUE), 0);
        due("find(2, 5, greatest)", x.find(2, 5, Integer.MAX_VALUE), BAD);
        due("find(2, 6, 0)", x.find(2, 6, 0), BAD);
        due("find(1, 5, 0)", x.find(1, 5, 0), BAD);
        due("find(1, 5, -16)", x.find(1, 5, -16), BAD);
        due("find(1, 5, 16)", x.find(1, 5, 16), BAD);
        for (int v : NOT_BYTES) {
            due("find(2, " + v + ", 0)", x.find(2, v, 0), BAD);
        }
        for (int s : NOT_SECTORS) {
            due("find(" + s + ", 0, 0)", x.find(s, 0, 0), BAD);
        }
    }

    private static void promise18RefusalsChangeNothing() {
        for (int i : NOT_PLACES) {
            keeps("put(" + i + ", 1)", x -> x.put(i, 1));
            keeps("get(" + i + ")", x -> x.get(i));
            keeps("byteOf(0, " + i + ")", x -> x.byteOf(0, i));
        }
        for (int v : NOT_BYTES) {
            keeps("put(0, " + v + ")", x -> x.put(0, v));
        }
        for (int s : NOT_SECTORS) {
            keeps("write(" + s + ")", x -> x.write(s));
            keeps("read(" + s + ")", x -> x.read(s));
            keeps("damage(" + s + ", 0, 1)", x -> x.damage(s, 0, 1));
            keeps("lose(" + s + ")", x -> x.lose(s));
            keeps("scrub(" + s + ")", x -> x.scrub(s));
            for (int t = 0; t < 4; t++) {
                int good = t;
                keeps("copy(" + s + ", " + t + ")", x -> x.copy(s, good));
                keeps("copy(" + t + ", " + s + ")", x -> x.copy(good, s));
                keeps("swap(" + s + ", " + t + ")", x -> x.swap(s, good));
                keeps("swap(" + t + ", " + s + ")", x -> x.swap(good, s));
            }
        }
        for (int s = 0; s < 4; s++) {
            int good = s;
            keeps("lose(" + s + ") while 2 is lost", x -> x.lose(good));
            keeps("damage(" + s + ", 64, 1)", x -> x.damage(good, 64, 1));
            keeps("damage(" + s + ", -1, 1)", x -> x.damage(good, -1, 1));
            keeps("damage(" + s + ", 0, 0)", x -> x.damage(good, 0, 0));
            keeps("damage(" + s + ", 0, 16384)", x -> x.damage(good, 0, 16384));
        }
        keeps("damage of a ninth cell", x -> x.damage(0, 63, 1));
        keeps("damage of a lost sector", x -> x.damage(2, 0, 1));
        SectorChain x = busy();
        x.damage(2, 0, 1);
        x.scrub(2);
        dueHealth("damage of a lost sector leaves no trace", x, 2, 0, 0);
    }

    private static void promise18QuestionsChangeNothing() {
        for (int s = 0; s < 4; s++) {
            int one = s;
            keeps("get(" + s + ")", x -> x.get(one));
            keeps("byteOf(" + s + ", 3)", x -> x.byteOf(one, 3));
            keeps("same(" + s + ", 1)", x -> x.same(one, 1));
            keeps("touched(" + s + ")", x -> x.touched(one));
            keeps("spoiled(" + s + ")", x -> x.spoiled(one));
            keeps("lost()", x -> x.lost());
            keeps("sum(" + s + ")", x -> x.sum(one));
            keeps("find(" + s + ", 5, 0)", x -> x.find(one, 5, 0));
        }
    }

    private static void promise18ObjectsStandApart() {
        SectorChain x = busy();
        int[] before = state(x);
        SectorChain y = new SectorChain();
        writePattern(y, 0, 7);
        y.damage(3, 3, 3);
        y.lose(1);
        dueState("calls on another object", state(x), before);
    }
}
