import java.util.Arrays;
import java.util.function.Consumer;
import java.util.function.IntPredicate;
import java.util.function.IntUnaryOperator;

/**
 * Every sentence of the document that names a boundary case, with a test of its own. SENTENCES goes
 * through the document from top to bottom; a fault is printed with the words it goes against.
 */
public final class BoundaryTest {
    private static final int BAD = -1;
    private static final int FULL = -2;
    private static final int LEAST = Integer.MIN_VALUE;
    private static final int GREATEST = Integer.MAX_VALUE;
    private static final int WAYS_OF_WRITING = 7;
    // Beside the next and the farthest ones: numbers that look right once they are cut to 8 or 16
    // digits, or that wrap around to the first sector when multiplied with its bytes or its cells.
    private static final int[] NOT_SECTORS = {-1, 4, LEAST, GREATEST, 258, 65538, 1 << 26, 1 << 28, 1 << 30, -256};
    private static final int[] NOT_PLACES = {-1, 16, LEAST, GREATEST, 17, 32, 259, 65539, -256, -16};
    private static final int[] NOT_BYTES = {-1, 256, LEAST, GREATEST, 257, 65536, -128, -255, -256};
    private static final int[] NOT_CELLS = {-1, 64, LEAST, GREATEST, 65, 128, 256, 65536, -64};
    private static final int[] NOT_DAMAGES = {0, -1, 16384, LEAST, GREATEST, 16385, 32767, 65537, LEAST + 1, -16383};

    private record Sentence(String where, String words, Runnable test) {
    }

    private static final Sentence[] SENTENCES = {
        new Sentence("What it is", "An object is used for at most 512 calls", BoundaryTest::theLastCallsCount),

        new Sentence("Terms", "There are SECTORS 0 .. 3", BoundaryTest::sectorsStandApart),
        new Sentence("Terms", "each holds 16 bytes (0 .. 255)", BoundaryTest::sectorsHoldAllBytes),
        new Sentence("Terms", "A sector keeps its bytes in 64 CELLS", BoundaryTest::cellsStandApart),
        new Sentence("Terms", "a number of 14 binary digits", BoundaryTest::everyDigitCounts),
        new Sentence("Terms", "when it holds something else than when the sector was last written",
            BoundaryTest::spoiledSinceTheLastWrite),
        new Sentence("Terms", "TOUCHED when it was damaged since then (it may hold the same again)",
            BoundaryTest::touchedThoughTheSameAgain),
        new Sentence("Terms", "At most eight cells of a sector can be touched", BoundaryTest::eightInEverySector),
        new Sentence("Terms", "at most one sector at a time can be LOST", BoundaryTest::oneLostAtATime),
        new Sentence("Terms", "the bytes of all sectors can be brought back", BoundaryTest::allComesBackFromTheWorst),

        new Sentence("1", "All sectors hold 0 bytes, undamaged", BoundaryTest::newSectors),
        new Sentence("1", "the draft has 0 bytes", BoundaryTest::newDraft),

        new Sentence("2", "Sets byte i of the draft to v and answers true", BoundaryTest::putAtTheEnds),
        new Sentence("2", "false, changing nothing, when i is not 0 .. 15", BoundaryTest::putAtNoPlace),
        new Sentence("2", "or v is not 0 .. 255", BoundaryTest::putOfNoByte),

        new Sentence("3", "Byte i of the draft", BoundaryTest::getAtTheEnds),
        new Sentence("3", "BAD when i is not 0 .. 15", BoundaryTest::getAtNoPlace),

        new Sentence("4", "Writes the draft to sector s", BoundaryTest::writeAtTheEnds),
        new Sentence("4", "none of its cells is touched then", BoundaryTest::writeOfAFullSector),
        new Sentence("4", "and it is not lost", BoundaryTest::writeOfALostSector),
        new Sentence("4", "false when s is not 0 .. 3", BoundaryTest::writeOfNoSector),

        new Sentence("5", "Makes the bytes of sector s the draft", BoundaryTest::readAtTheEnds),
        new Sentence("5", "answers the number of its spoiled cells", BoundaryTest::readCountsSpoiled),
        new Sentence("5", "(64 when it is lost)", BoundaryTest::readOfALostSector),
        new Sentence("5", "BAD, changing nothing, when s is not 0 .. 3", BoundaryTest::readOfNoSector),
        new Sentence("5", "(The sector stays as it is.)", BoundaryTest::readLeavesTheSector),

        new Sentence("6", "Turns those digits of what a cell holds over that are set in how (1 .. 16383)",
            BoundaryTest::damageAtTheEnds),
        new Sentence("6", "answers the number of touched cells of the sector then", BoundaryTest::damageCountsTouched),
        new Sentence("6", "BAD when s is not 0 .. 3", BoundaryTest::damageOfNoSector),
        new Sentence("6", "cell not 0 .. 63", BoundaryTest::damageOfNoCell),
        new Sentence("6", "or how not 1 .. 16383", BoundaryTest::damageOfNoDigits),
        new Sentence("6", "or the sector is lost", BoundaryTest::damageOfALostSector),
        new Sentence("6", "FULL, changing nothing, when it would be the ninth", BoundaryTest::damageOfANinth),
        new Sentence("6", "when it would be the ninth", BoundaryTest::damageOfOneOfEight),
        new Sentence("6", "Tested in this order", BoundaryTest::damageIsBadBeforeFull),

        new Sentence("7", "Sector s is lost: its cells hold nothing any more", BoundaryTest::loseOfAFullSector),
        new Sentence("7", "false, changing nothing, when s is not 0 .. 3", BoundaryTest::loseOfNoSector),
        new Sentence("7", "or a sector is lost", BoundaryTest::loseOfASecond),
        new Sentence("7", "or a sector is lost", BoundaryTest::loseWhenNoneIsLostAnyMore),

        new Sentence("8", "so that it is not lost", BoundaryTest::scrubOfALostSector),
        new Sentence("8", "and none of its cells is touched", BoundaryTest::scrubOfAFullSector),
        new Sentence("8", "answers the number of cells that were spoiled", BoundaryTest::scrubCountsSpoiled),
        new Sentence("8", "(64 when it was lost)", BoundaryTest::scrubCountsAllOfALostSector),
        new Sentence("8", "BAD when s is not 0 .. 3", BoundaryTest::scrubOfNoSector),

        new Sentence("9", "Byte i of sector s", BoundaryTest::byteOfAtTheEnds),
        new Sentence("9", "BAD when s is not 0 .. 3", BoundaryTest::byteOfNoSector),
        new Sentence("9", "or i not 0 .. 15", BoundaryTest::byteOfNoPlace),

        new Sentence("10", "Writes the bytes of sector s to sector t (as in write)", BoundaryTest::copyOverDamageAndLoss),
        new Sentence("10", "(as in write)", BoundaryTest::copyToItself),
        new Sentence("10", "false when one is not 0 .. 3", BoundaryTest::copyOfNoSector),

        new Sentence("11", "Whether the bytes of the sectors s and t are the same", BoundaryTest::sameUpToTheLastByte),
        new Sentence("11", "the bytes of the sectors s and t", BoundaryTest::sameThroughDamageAndLoss),
        new Sentence("11", "false when one is not 0 .. 3", BoundaryTest::sameOfNoSector),

        new Sentence("12", "both are written (as in write)", BoundaryTest::swapOverDamageAndLoss),
        new Sentence("12", "also when they are the same one", BoundaryTest::swapWithItself),
        new Sentence("12", "false when one is not 0 .. 3", BoundaryTest::swapOfNoSector),

        new Sentence("13", "The number of touched cells of sector s", BoundaryTest::touchedFromNoneToEight),
        new Sentence("13", "(0 when it is lost)", BoundaryTest::touchedOfALostSector),
        new Sentence("13", "BAD when s is not 0 .. 3", BoundaryTest::touchedOfNoSector),

        new Sentence("14", "The number of spoiled cells of sector s", BoundaryTest::spoiledFromNoneToEight),
        new Sentence("14", "(64 when it is lost)", BoundaryTest::spoiledOfALostSector),
        new Sentence("14", "BAD when s is not 0 .. 3", BoundaryTest::spoiledOfNoSector),

        new Sentence("15", "The lost sector", BoundaryTest::lostIsEachSector),
        new Sentence("15", "BAD when none is", BoundaryTest::lostWhenNoneIs),

        new Sentence("16", "byte i weighted with i + 1", BoundaryTest::sumFromLeastToGreatest),
        new Sentence("16", "BAD when s is not 0 .. 3", BoundaryTest::sumOfNoSector),

        new Sentence("17", "The least i, from a place on", BoundaryTest::findFromEveryPlace),
        new Sentence("17", "(which may be any int)", BoundaryTest::findFromAnyInt),
        new Sentence("17", "BAD when there is none", BoundaryTest::findWhenThereIsNone),
        new Sentence("17", "or s is not 0 .. 3", BoundaryTest::findInNoSector),

        new Sentence("18", "a call that is refused (by a code below 0 that is named", BoundaryTest::codesChangeNothing),
        new Sentence("18", "or by false) changes nothing", BoundaryTest::falseChangesNothing),
    };

    private static Sentence current;
    private static int checks = 0;
    private static int wrong = 0;

    public static void main(String[] args) {
        for (Sentence sentence : SENTENCES) {
            runOne(sentence);
        }
        System.out.println(wrong == 0 ? "all " + SENTENCES.length + " sentences hold" : wrong + " answers are not as due");
        if (wrong != 0) {
            System.exit(1);
        }
    }

    /** A call that throws is a fault of its own sentence, and leaves the others to be tested. */
    private static void runOne(Sentence sentence) {
        current = sentence;
        checks = 0;
        try {
            sentence.test().run();
        } catch (RuntimeException thrown) {
            fault("a call threw " + thrown);
        }
        if (checks == 0) {
            fault("nothing was looked at");
        }
    }

    private static void fault(String text) {
        wrong++;
        System.out.println(current.where() + ", \"" + current.words() + "\": " + text);
    }

    private static void due(String call, int got, int want) {
        checks++;
        if (got != want) {
            fault(call + " answered " + got + ", due is " + want);
        }
    }

    private static void due(String call, boolean got, boolean want) {
        checks++;
        if (got != want) {
            fault(call + " answered " + got + ", due is " + want);
        }
    }

    private static void dueAll(String what, int[] got, int[] want) {
        checks++;
        if (!Arrays.equals(got, want)) {
            fault(what + " is " + Arrays.toString(got) + ", due is " + Arrays.toString(want));
        }
    }

    /** Sixteen bytes that differ from each other and, at every place, from those of another seed. */
    private static int[] bytes(int seed) {
        int[] all = new int[16];
        for (int i = 0; i < 16; i++) {
            all[i] = (seed * 37 + i * 11 + 5) & 255;
        }
        return all;
    }

    private static int[] filled(int v) {
        int[] all = new int[16];
        Arrays.fill(all, v);
        return all;
    }

    private static void putAll(SectorChain x, int[] all) {
        for (int i = 0; i < 16; i++) {
            x.put(i, all[i]);
        }
    }

    private static void writeAll(SectorChain x, int s, int[] all) {
        putAll(x, all);
        x.write(s);
    }

    private static int[] draftOf(SectorChain x) {
        int[] all = new int[16];
        for (int i = 0; i < 16; i++) {
            all[i] = x.get(i);
        }
        return all;
    }

    private static int[] sectorOf(SectorChain x, int s) {
        int[] all = new int[16];
        for (int i = 0; i < 16; i++) {
            all[i] = x.byteOf(s, i);
        }
        return all;
    }

    private static void dueHealth(String when, SectorChain x, int s, int touched, int spoiled) {
        due("touched(" + s + ") " + when, x.touched(s), touched);
        due("spoiled(" + s + ") " + when, x.spoiled(s), spoiled);
    }

    /** Damages the first cells out of eight, the least and the greatest among them; done again, it heals them. */
    private static void damageCells(SectorChain x, int s, int count) {
        for (int c = 0; c < count; c++) {
            x.damage(s, c * 9, 1 + c * 2047);
        }
    }

    /** Four different sectors and another draft, nothing damaged: sector s holds bytes(s), the draft bytes(9). */
    private static SectorChain written() {
        SectorChain x = new SectorChain();
        for (int s = 0; s < 4; s++) {
            writeAll(x, s, bytes(s));
        }
        putAll(x, bytes(9));
        return x;
    }

    /** The same, with sector 0 full, sector 1 with three touched cells of which one is healed, and one sector lost. */
    private static SectorChain worn(int lost) {
        SectorChain x = written();
        damageCells(x, 0, 8);
        damageCells(x, 1, 3);
        damageCells(x, 1, 1);
        x.lose(lost);
        return x;
    }

    private static int[] answersOf(SectorChain x) {
        int[] all = new int[89];
        System.arraycopy(draftOf(x), 0, all, 0, 16);
        for (int s = 0; s < 4; s++) {
            System.arraycopy(sectorOf(x, s), 0, all, 16 + s * 16, 16);
            all[80 + s] = x.touched(s);
            all[84 + s] = x.spoiled(s);
        }
        all[88] = x.lost();
        return all;
    }

    /**
     * Whether a call leaves a worn object as it is: all that can be asked for, and then the digits
     * of the cells, which show only when the damage is turned back.
     */
    private static void changesNothing(String call, int lost, Consumer<SectorChain> calls) {
        SectorChain x = worn(lost);
        int[] before = answersOf(x);
        calls.accept(x);
        dueAll("the state after " + call, answersOf(x), before);
        damageCells(x, 0, 8);
        damageCells(x, 1, 3);
        damageCells(x, 1, 1);
        int[] spoiled = {x.spoiled(0), x.spoiled(1), x.spoiled(2), x.spoiled(3)};
        int[] want = new int[4];
        if (lost >= 0) {
            want[lost] = 64;
        }
        dueAll("what is spoiled after " + call + " and damage turned back", spoiled, want);
    }

    private static void changesNothing(String call, Consumer<SectorChain> calls) {
        for (int lost : new int[] {BAD, 0, 3}) {
            changesNothing(call + " (lost: " + lost + ")", lost, calls);
        }
    }

    private static void badFor(String call, int[] all, IntUnaryOperator answer) {
        for (int v : all) {
            due(call + " with " + v, answer.applyAsInt(v), BAD);
        }
    }

    private static void falseFor(String call, int[] all, IntPredicate answer) {
        for (int v : all) {
            due(call + " with " + v, answer.test(v), false);
        }
    }

    private static void falseForPairs(String call, IntPredicate first, IntPredicate second, IntPredicate both) {
        falseFor(call + ", the first one", NOT_SECTORS, first);
        falseFor(call + ", the second one", NOT_SECTORS, second);
        falseFor(call + ", both", NOT_SECTORS, both);
    }

    // What it is

    private static void theLastCallsCount() {
        SectorChain x = new SectorChain();
        x.put(15, 255);
        x.write(3);
        for (int call = 3; call < 510; call++) {
            due("damage(3, 63, 1) as call " + call, x.damage(3, 63, 1), 1);
        }
        due("byteOf(3, 15) as call 510", x.byteOf(3, 15), 255);
        due("damage(3, 0, 16383) as call 511", x.damage(3, 0, 16383), 2);
        due("read(3) as call 512", x.read(3), 2);
    }

    // Terms

    private static void sectorsStandApart() {
        SectorChain x = written();
        for (int s = 0; s < 4; s++) {
            dueAll("sector " + s, sectorOf(x, s), bytes(s));
        }
        due("lose(-1)", x.lose(-1), false);
        due("lose(4)", x.lose(4), false);
        due("lose(3)", x.lose(3), true);
    }

    private static void sectorsHoldAllBytes() {
        for (int v = 0; v < 256; v++) {
            SectorChain x = new SectorChain();
            putAll(x, filled(255 - v));
            x.put(0, v);
            x.put(15, v);
            x.write(3);
            int[] want = filled(255 - v);
            want[0] = v;
            want[15] = v;
            dueAll("sector 3", sectorOf(x, 3), want);
            x.lose(3);
            dueAll("sector 3 when lost", sectorOf(x, 3), want);
        }
    }

    private static void cellsStandApart() {
        for (int s = 0; s < 4; s++) {
            for (int cell = 0; cell < 64; cell++) {
                for (int other = 0; other < cell; other++) {
                    twoCellsStandApart(s, cell, other);
                }
            }
        }
    }

    private static void twoCellsStandApart(int s, int cell, int other) {
        SectorChain x = new SectorChain();
        due("damage(" + s + ", " + cell + ", 1)", x.damage(s, cell, 1), 1);
        due("damage(" + s + ", " + other + ", 1)", x.damage(s, other, 1), 2);
        for (int t = 0; t < 4; t++) {
            dueHealth("with two cells of " + s + " damaged", x, t, t == s ? 2 : 0, t == s ? 2 : 0);
        }
    }

    private static void everyDigitCounts() {
        for (int one = 0; one < 14; one++) {
            SectorChain x = new SectorChain();
            x.damage(2, 0, 1 << one);
            due("spoiled(2) with digit " + one + " turned", x.spoiled(2), 1);
            x.damage(2, 0, 16383);
            due("spoiled(2) with all digits but " + one + " turned", x.spoiled(2), 1);
            x.damage(2, 0, 16383 - (1 << one));
            due("spoiled(2) with all digits turned back", x.spoiled(2), 0);
        }
    }

    private static void spoiledSinceTheLastWrite() {
        for (int way = 0; way < WAYS_OF_WRITING; way++) {
            SectorChain x = written();
            x.damage(1, 63, 5);
            writeInOneWay(x, way, 1);
            due("spoiled(1) after way " + way + " of writing", x.spoiled(1), 0);
            x.damage(1, 63, 5);
            due("spoiled(1) with the same damage again after way " + way, x.spoiled(1), 1);
            x.damage(1, 63, 5);
            due("spoiled(1) with that turned back", x.spoiled(1), 0);
        }
    }

    private static void writeInOneWay(SectorChain x, int way, int s) {
        switch (way) {
            case 0 -> x.write(s);
            case 1 -> x.scrub(s);
            case 2 -> x.copy((s + 1) % 4, s);
            case 3 -> x.swap(s, (s + 1) % 4);
            case 4 -> x.swap((s + 1) % 4, s);
            case 5 -> x.swap(s, s);
            default -> x.copy(s, s);
        }
    }

    private static void touchedThoughTheSameAgain() {
        SectorChain x = new SectorChain();
        x.damage(0, 0, 16383);
        x.damage(0, 0, 16383);
        dueHealth("with a cell that holds the same again", x, 0, 1, 0);
        x.damage(0, 0, 16383);
        dueHealth("with that cell damaged again", x, 0, 1, 1);
    }

    private static void eightInEverySector() {
        SectorChain x = written();
        for (int s = 0; s < 4; s++) {
            for (int c = 0; c < 8; c++) {
                due("damage of cell " + (c + 1) + " of sector " + s, x.damage(s, 63 - c, 1), c + 1);
            }
            due("damage of a ninth of sector " + s, x.damage(s, 0, 1), FULL);
        }
        for (int s = 0; s < 4; s++) {
            dueHealth("with every sector full", x, s, 8, 8);
        }
    }

    private static void oneLostAtATime() {
        for (int s = 0; s < 4; s++) {
            SectorChain x = written();
            due("lose(" + s + ")", x.lose(s), true);
            for (int t = 0; t < 4; t++) {
                due("lose(" + t + ") with " + s + " lost", x.lose(t), false);
                due("spoiled(" + t + ") with " + s + " lost", x.spoiled(t), t == s ? 64 : 0);
            }
            due("lost()", x.lost(), s);
        }
    }

    private static void allComesBackFromTheWorst() {
        for (int lost = 0; lost < 4; lost++) {
            SectorChain x = written();
            for (int s = 0; s < 4; s++) {
                for (int c = 0; c < 8; c++) {
                    x.damage(s, c * 9, 16383);
                }
            }
            x.lose(lost);
            for (int s = 0; s < 4; s++) {
                dueAll("sector " + s + " with " + lost + " lost and all full", sectorOf(x, s), bytes(s));
                x.read(s);
                dueAll("the draft after read(" + s + ")", draftOf(x), bytes(s));
            }
            x.scrub(lost);
            x.lose((lost + 1) % 4);
            for (int s = 0; s < 4; s++) {
                dueAll("sector " + s + " with the next one lost", sectorOf(x, s), bytes(s));
            }
        }
    }

    // Promise 1

    private static void newSectors() {
        SectorChain x = new SectorChain();
        for (int s = 0; s < 4; s++) {
            dueAll("sector " + s, sectorOf(x, s), filled(0));
            dueHealth("at first", x, s, 0, 0);
        }
        due("lost()", x.lost(), BAD);
    }

    private static void newDraft() {
        dueAll("the draft", draftOf(new SectorChain()), filled(0));
    }

    // Promise 2

    private static void putAtTheEnds() {
        for (int i : new int[] {0, 15}) {
            for (int v : new int[] {255, 0, 128, 127, 254, 1}) {
                SectorChain x = written();
                int[] want = bytes(9);
                want[i] = v;
                due("put(" + i + ", " + v + ")", x.put(i, v), true);
                dueAll("the draft after put(" + i + ", " + v + ")", draftOf(x), want);
            }
        }
    }

    private static void putAtNoPlace() {
        for (int i : NOT_PLACES) {
            SectorChain x = written();
            due("put(" + i + ", 1)", x.put(i, 1), false);
            due("put(" + i + ", 0)", x.put(i, 0), false);
            dueAll("the draft after put(" + i + ", ..)", draftOf(x), bytes(9));
            dueAll("sector 0 after put(" + i + ", ..)", sectorOf(x, 0), bytes(0));
        }
    }

    private static void putOfNoByte() {
        for (int v : NOT_BYTES) {
            SectorChain x = written();
            due("put(0, " + v + ")", x.put(0, v), false);
            due("put(15, " + v + ")", x.put(15, v), false);
            due("put(16, " + v + ")", x.put(16, v), false);
            dueAll("the draft after put of " + v, draftOf(x), bytes(9));
        }
    }

    // Promise 3

    private static void getAtTheEnds() {
        SectorChain x = new SectorChain();
        x.put(0, 255);
        x.put(15, 254);
        due("get(0)", x.get(0), 255);
        due("get(1)", x.get(1), 0);
        due("get(14)", x.get(14), 0);
        due("get(15)", x.get(15), 254);
    }

    private static void getAtNoPlace() {
        SectorChain x = written();
        badFor("get", NOT_PLACES, x::get);
    }

    // Promise 4

    private static void writeAtTheEnds() {
        for (int s : new int[] {0, 3}) {
            SectorChain x = written();
            due("write(" + s + ")", x.write(s), true);
            for (int t = 0; t < 4; t++) {
                dueAll("sector " + t + " after write(" + s + ")", sectorOf(x, t), bytes(t == s ? 9 : t));
            }
            x.put(0, 0);
            dueAll("sector " + s + " after a put that comes later", sectorOf(x, s), bytes(9));
        }
    }

    private static void writeOfAFullSector() {
        for (int s = 0; s < 4; s++) {
            SectorChain x = written();
            damageCells(x, (s + 1) % 4, 8);
            damageCells(x, s, 8);
            due("write(" + s + ")", x.write(s), true);
            dueHealth("after write", x, s, 0, 0);
            dueHealth("after write of another", x, (s + 1) % 4, 8, 8);
            due("damage of a cell that was not among the eight", x.damage(s, 1, 1), 1);
        }
    }

    private static void writeOfALostSector() {
        for (int s = 0; s < 4; s++) {
            SectorChain x = written();
            x.lose(s);
            x.write((s + 1) % 4);
            due("lost() after write of another", x.lost(), s);
            due("write(" + s + ")", x.write(s), true);
            due("lost() after write(" + s + ")", x.lost(), BAD);
            dueHealth("after write", x, s, 0, 0);
            dueAll("sector " + s, sectorOf(x, s), bytes(9));
            due("damage after write", x.damage(s, 0, 1), 1);
        }
    }

    private static void writeOfNoSector() {
        SectorChain x = written();
        falseFor("write", NOT_SECTORS, x::write);
        for (int s = 0; s < 4; s++) {
            dueAll("sector " + s, sectorOf(x, s), bytes(s));
        }
    }

    // Promise 5

    private static void readAtTheEnds() {
        for (int s : new int[] {0, 3}) {
            SectorChain x = written();
            due("read(" + s + ")", x.read(s), 0);
            dueAll("the draft after read(" + s + ")", draftOf(x), bytes(s));
            x.put(15, 0);
            dueAll("sector " + s + " after a put that comes later", sectorOf(x, s), bytes(s));
        }
    }

    private static void readCountsSpoiled() {
        for (int healed = 0; healed <= 8; healed++) {
            SectorChain x = written();
            damageCells(x, 3, 8);
            damageCells(x, 3, healed);
            due("read(3) with " + healed + " of eight healed", x.read(3), 8 - healed);
            dueAll("the draft", draftOf(x), bytes(3));
        }
    }

    private static void readOfALostSector() {
        for (int s = 0; s < 4; s++) {
            SectorChain x = written();
            damageCells(x, s, s * 2);
            x.lose(s);
            due("read(" + s + ")", x.read(s), 64);
            dueAll("the draft", draftOf(x), bytes(s));
            due("read of another", x.read((s + 1) % 4), 0);
        }
    }

    private static void readOfNoSector() {
        SectorChain x = written();
        badFor("read", NOT_SECTORS, x::read);
        dueAll("the draft", draftOf(x), bytes(9));
    }

    private static void readLeavesTheSector() {
        for (int s = 0; s < 4; s++) {
            int one = s;
            changesNothing("read(" + s + ") and the draft as before", x -> {
                x.read(one);
                putAll(x, bytes(9));
            });
        }
    }

    // Promise 6

    private static void damageAtTheEnds() {
        for (int how : new int[] {1, 16383, 2, 8192, 16382}) {
            for (int cell : new int[] {0, 63}) {
                for (int s : new int[] {0, 3}) {
                    SectorChain x = written();
                    String call = "damage(" + s + ", " + cell + ", " + how + ")";
                    due(call, x.damage(s, cell, how), 1);
                    dueHealth("after " + call, x, s, 1, 1);
                    due(call + " again", x.damage(s, cell, how), 1);
                    dueHealth("after " + call + " twice", x, s, 1, 0);
                    dueAll("sector " + s, sectorOf(x, s), bytes(s));
                }
            }
        }
    }

    private static void damageCountsTouched() {
        SectorChain x = new SectorChain();
        for (int n = 1; n <= 8; n++) {
            due("damage of cell " + n, x.damage(0, n, 3), n);
            due("damage of cell " + n + " back", x.damage(0, n, 3), n);
        }
        due("damage of the first cell of another sector", x.damage(1, 1, 3), 1);
    }

    private static void damageOfNoSector() {
        SectorChain x = new SectorChain();
        badFor("damage(.., 0, 1)", NOT_SECTORS, s -> x.damage(s, 0, 1));
        for (int s = 0; s < 4; s++) {
            dueHealth("after refusals", x, s, 0, 0);
        }
    }

    private static void damageOfNoCell() {
        SectorChain x = new SectorChain();
        badFor("damage(0, .., 1)", NOT_CELLS, cell -> x.damage(0, cell, 1));
        badFor("damage(3, .., 1)", NOT_CELLS, cell -> x.damage(3, cell, 1));
        for (int s = 0; s < 4; s++) {
            dueHealth("after refusals", x, s, 0, 0);
        }
    }

    private static void damageOfNoDigits() {
        SectorChain x = new SectorChain();
        x.damage(0, 0, 6);
        badFor("damage(0, 0, ..)", NOT_DAMAGES, how -> x.damage(0, 0, how));
        badFor("damage(0, 1, ..)", NOT_DAMAGES, how -> x.damage(0, 1, how));
        dueHealth("after refusals", x, 0, 1, 1);
        x.damage(0, 0, 6);
        dueHealth("after refusals and the cell turned back", x, 0, 1, 0);
    }

    private static void damageOfALostSector() {
        for (int s = 0; s < 4; s++) {
            SectorChain x = written();
            x.damage(s, 0, 1);
            x.lose(s);
            due("damage of a cell touched before the loss", x.damage(s, 0, 1), BAD);
            due("damage of another cell", x.damage(s, 63, 16383), BAD);
            due("damage of another sector", x.damage((s + 1) % 4, 0, 1), 1);
            x.scrub(s);
            dueHealth("after scrub", x, s, 0, 0);
            due("damage after scrub", x.damage(s, 0, 1), 1);
        }
    }

    private static void damageOfANinth() {
        for (int s = 0; s < 4; s++) {
            for (int healed : new int[] {0, 1, 8}) {
                SectorChain x = written();
                damageCells(x, s, 7);
                due("damage of the eighth", x.damage(s, 63, 14330), 8);
                damageCells(x, s, healed);
                int spoiled = x.spoiled(s);
                for (int cell = 0; cell < 64; cell++) {
                    if (cell % 9 != 0) {
                        due("damage(" + s + ", " + cell + ", 1) as the ninth", x.damage(s, cell, 1), FULL);
                    }
                }
                dueHealth("after the refused ninth", x, s, 8, spoiled);
                dueAll("sector " + s, sectorOf(x, s), bytes(s));
                dueHealth("after the refused ninth", x, (s + 1) % 4, 0, 0);
            }
        }
    }

    private static void damageOfOneOfEight() {
        SectorChain x = written();
        damageCells(x, 2, 8);
        for (int c = 0; c < 8; c++) {
            due("damage of cell " + c * 9 + " back", x.damage(2, c * 9, 1 + c * 2047), 8);
            dueHealth("with cells back", x, 2, 8, 7 - c);
        }
        due("damage of a healed one of eight", x.damage(2, 63, 1), 8);
        dueHealth("with one spoiled anew", x, 2, 8, 1);
    }

    private static void damageIsBadBeforeFull() {
        SectorChain x = worn(2);
        badFor("damage(0, 1, ..) in a full sector", NOT_DAMAGES, how -> x.damage(0, 1, how));
        badFor("damage(0, .., 1) in a full sector", NOT_CELLS, cell -> x.damage(0, cell, 1));
        badFor("damage(.., 1, 1) with a full sector", NOT_SECTORS, s -> x.damage(s, 1, 1));
        due("damage(0, 1, 1)", x.damage(0, 1, 1), FULL);
        x.scrub(2);
        x.lose(0);
        due("damage(0, 1, 1) when the full sector is lost", x.damage(0, 1, 1), BAD);
        due("damage(0, 0, 1) when the full sector is lost", x.damage(0, 0, 1), BAD);
    }

    // Promise 7

    private static void loseOfAFullSector() {
        for (int s = 0; s < 4; s++) {
            SectorChain x = written();
            damageCells(x, s, 8);
            due("lose(" + s + ")", x.lose(s), true);
            due("lost()", x.lost(), s);
            dueHealth("when lost", x, s, 0, 64);
            dueAll("sector " + s, sectorOf(x, s), bytes(s));
            dueAll("the draft", draftOf(x), bytes(9));
            x.scrub(s);
            dueHealth("after loss and scrub", x, s, 0, 0);
        }
    }

    private static void loseOfNoSector() {
        SectorChain x = written();
        falseFor("lose", NOT_SECTORS, x::lose);
        due("lost()", x.lost(), BAD);
        for (int s = 0; s < 4; s++) {
            dueHealth("after refusals", x, s, 0, 0);
        }
    }

    private static void loseOfASecond() {
        for (int s = 0; s < 4; s++) {
            int one = s;
            for (int lost = 0; lost < 4; lost++) {
                due("lose(" + s + ") with " + lost + " lost", worn(lost).lose(s), false);
                changesNothing("lose(" + s + ") with " + lost + " lost", lost, x -> x.lose(one));
            }
        }
    }

    private static void loseWhenNoneIsLostAnyMore() {
        for (int way = 0; way < WAYS_OF_WRITING; way++) {
            for (int s = 0; s < 4; s++) {
                SectorChain x = written();
                x.lose(2);
                writeInOneWay(x, way, 2);
                due("lose(" + s + ") after way " + way + " of writing", x.lose(s), true);
                due("lost()", x.lost(), s);
            }
        }
    }

    // Promise 8

    private static void scrubOfALostSector() {
        for (int s = 0; s < 4; s++) {
            SectorChain x = written();
            x.lose(s);
            x.scrub((s + 1) % 4);
            due("lost() after scrub of another", x.lost(), s);
            x.scrub(s);
            due("lost() after scrub(" + s + ")", x.lost(), BAD);
            dueHealth("after scrub", x, s, 0, 0);
            dueAll("sector " + s, sectorOf(x, s), bytes(s));
            dueAll("the draft", draftOf(x), bytes(9));
        }
    }

    private static void scrubOfAFullSector() {
        for (int s = 0; s < 4; s++) {
            SectorChain x = written();
            damageCells(x, s, 8);
            damageCells(x, s, 4);
            damageCells(x, (s + 1) % 4, 8);
            x.scrub(s);
            dueHealth("after scrub", x, s, 0, 0);
            dueHealth("after scrub of another", x, (s + 1) % 4, 8, 8);
            dueAll("sector " + s, sectorOf(x, s), bytes(s));
            due("damage of a cell that was not among the eight", x.damage(s, 1, 1), 1);
        }
    }

    private static void scrubCountsSpoiled() {
        for (int healed = 0; healed <= 8; healed++) {
            SectorChain x = written();
            damageCells(x, 3, 8);
            damageCells(x, 3, healed);
            due("scrub(3) with " + healed + " of eight healed", x.scrub(3), 8 - healed);
            due("scrub(3) again", x.scrub(3), 0);
        }
    }

    private static void scrubCountsAllOfALostSector() {
        for (int s = 0; s < 4; s++) {
            SectorChain x = written();
            damageCells(x, s, s * 2);
            x.lose(s);
            due("scrub of another", x.scrub((s + 1) % 4), 0);
            due("scrub(" + s + ")", x.scrub(s), 64);
            due("scrub(" + s + ") again", x.scrub(s), 0);
        }
    }

    private static void scrubOfNoSector() {
        SectorChain x = worn(3);
        badFor("scrub", NOT_SECTORS, x::scrub);
        dueHealth("after refusals", x, 0, 8, 8);
        due("lost()", x.lost(), 3);
    }

    // Promise 9

    private static void byteOfAtTheEnds() {
        SectorChain x = new SectorChain();
        for (int s = 0; s < 4; s++) {
            x.put(0, 255 - s);
            x.put(15, 128 + s);
            x.write(s);
        }
        for (int s = 0; s < 4; s++) {
            due("byteOf(" + s + ", 0)", x.byteOf(s, 0), 255 - s);
            due("byteOf(" + s + ", 1)", x.byteOf(s, 1), 0);
            due("byteOf(" + s + ", 14)", x.byteOf(s, 14), 0);
            due("byteOf(" + s + ", 15)", x.byteOf(s, 15), 128 + s);
        }
    }

    private static void byteOfNoSector() {
        SectorChain x = written();
        for (int i : new int[] {0, 15, 16, -1}) {
            badFor("byteOf(.., " + i + ")", NOT_SECTORS, s -> x.byteOf(s, i));
        }
    }

    private static void byteOfNoPlace() {
        SectorChain x = written();
        for (int s = 0; s < 4; s++) {
            int one = s;
            badFor("byteOf(" + s + ", ..)", NOT_PLACES, i -> x.byteOf(one, i));
        }
    }

    // Promise 10

    private static void copyOverDamageAndLoss() {
        for (int s = 0; s < 4; s++) {
            int t = (s + 1) % 4;
            SectorChain x = written();
            damageCells(x, s, 8);
            damageCells(x, t, 8);
            due("copy(" + s + ", " + t + ")", x.copy(s, t), true);
            dueAll("the full sector copied to", sectorOf(x, t), bytes(s));
            dueHealth("copied to", x, t, 0, 0);
            dueHealth("copied from", x, s, 8, 8);
            x.lose(s);
            due("copy(" + s + ", " + t + ") from a lost one", x.copy(s, t), true);
            dueAll("the sector copied to", sectorOf(x, t), bytes(s));
            due("lost() after copy from it", x.lost(), s);
            writeAll(x, t, bytes(8));
            due("copy(" + t + ", " + s + ") to a lost one", x.copy(t, s), true);
            dueAll("the lost sector copied to", sectorOf(x, s), bytes(8));
            dueHealth("lost and copied to", x, s, 0, 0);
            due("lost() after copy to it", x.lost(), BAD);
            dueAll("the draft", draftOf(x), bytes(8));
        }
    }

    private static void copyToItself() {
        for (int s = 0; s < 4; s++) {
            SectorChain x = written();
            damageCells(x, s, 8);
            due("copy(" + s + ", " + s + ")", x.copy(s, s), true);
            dueHealth("copied to itself", x, s, 0, 0);
            x.lose(s);
            due("copy(" + s + ", " + s + ") of a lost one", x.copy(s, s), true);
            dueHealth("lost and copied to itself", x, s, 0, 0);
            due("lost()", x.lost(), BAD);
            dueAll("sector " + s, sectorOf(x, s), bytes(s));
        }
    }

    private static void copyOfNoSector() {
        SectorChain x = written();
        falseForPairs("copy", s -> x.copy(s, 0), t -> x.copy(3, t), u -> x.copy(u, u));
        for (int s = 0; s < 4; s++) {
            dueAll("sector " + s, sectorOf(x, s), bytes(s));
        }
    }

    // Promise 11

    private static void sameUpToTheLastByte() {
        SectorChain x = new SectorChain();
        for (int s = 0; s < 4; s++) {
            due("same(0, " + s + ") at first", x.same(0, s), true);
        }
        for (int i = 0; i < 16; i++) {
            x.put(i, 1);
            x.write(3);
            due("same(0, 3) with byte " + i + " other", x.same(0, 3), false);
            due("same(3, 0) with byte " + i + " other", x.same(3, 0), false);
            due("same(3, 3)", x.same(3, 3), true);
            x.put(i, 0);
            x.write(3);
            due("same(0, 3) with byte " + i + " back", x.same(0, 3), true);
        }
    }

    private static void sameThroughDamageAndLoss() {
        SectorChain x = worn(3);
        for (int s = 0; s < 4; s++) {
            for (int t = 0; t < 4; t++) {
                due("same(" + s + ", " + t + ")", x.same(s, t), s == t);
            }
        }
        x.copy(0, 1);
        due("same(0, 1) with one full of damage", x.same(0, 1), true);
        x.copy(3, 2);
        due("same(3, 2) with one lost", x.same(3, 2), true);
        due("same(2, 3) with one lost", x.same(2, 3), true);
    }

    private static void sameOfNoSector() {
        SectorChain x = new SectorChain();
        falseForPairs("same", s -> x.same(s, 0), t -> x.same(3, t), u -> x.same(u, u));
    }

    // Promise 12

    private static void swapOverDamageAndLoss() {
        for (int s = 0; s < 4; s++) {
            for (int t = 0; t < 4; t++) {
                if (s == t) {
                    continue;
                }
                SectorChain x = written();
                for (int u = 0; u < 4; u++) {
                    damageCells(x, u, 8);
                }
                x.lose(t);
                String call = "swap(" + s + ", " + t + ")";
                due(call, x.swap(s, t), true);
                for (int u = 0; u < 4; u++) {
                    boolean apart = u != s && u != t;
                    dueAll("sector " + u + " after " + call, sectorOf(x, u), bytes(u == s ? t : u == t ? s : u));
                    dueHealth("after " + call, x, u, apart ? 8 : 0, apart ? 8 : 0);
                }
                due("lost() after " + call, x.lost(), BAD);
                dueAll("the draft", draftOf(x), bytes(9));
                x.lose(s);
                x.swap(s, t);
                due("lost() after " + call + " with the first one lost", x.lost(), BAD);
                dueAll("sector " + s + " when swapped back", sectorOf(x, s), bytes(s));
                dueAll("sector " + t + " when swapped back", sectorOf(x, t), bytes(t));
            }
        }
    }

    private static void swapWithItself() {
        for (int s = 0; s < 4; s++) {
            SectorChain x = written();
            damageCells(x, s, 8);
            due("swap(" + s + ", " + s + ")", x.swap(s, s), true);
            dueHealth("swapped with itself", x, s, 0, 0);
            x.lose(s);
            due("swap(" + s + ", " + s + ") of a lost one", x.swap(s, s), true);
            dueHealth("lost and swapped with itself", x, s, 0, 0);
            due("lost()", x.lost(), BAD);
            dueAll("sector " + s, sectorOf(x, s), bytes(s));
        }
    }

    private static void swapOfNoSector() {
        SectorChain x = written();
        falseForPairs("swap", s -> x.swap(s, 0), t -> x.swap(3, t), u -> x.swap(u, u));
        for (int s = 0; s < 4; s++) {
            dueAll("sector " + s, sectorOf(x, s), bytes(s));
        }
    }

    // Promises 13 and 14

    private static void touchedFromNoneToEight() {
        for (int s = 0; s < 4; s++) {
            SectorChain x = new SectorChain();
            for (int n = 0; n <= 8; n++) {
                damageCells(x, s, n);
                due("touched(" + s + ")", x.touched(s), n);
            }
            x.damage(s, 1, 1);
            due("touched(" + s + ") after a refused ninth", x.touched(s), 8);
        }
    }

    private static void touchedOfALostSector() {
        for (int s = 0; s < 4; s++) {
            SectorChain x = new SectorChain();
            damageCells(x, s, 8);
            damageCells(x, (s + 1) % 4, 8);
            x.lose(s);
            due("touched(" + s + ")", x.touched(s), 0);
            due("touched of another", x.touched((s + 1) % 4), 8);
        }
    }

    private static void touchedOfNoSector() {
        SectorChain x = worn(3);
        badFor("touched", NOT_SECTORS, x::touched);
    }

    private static void spoiledFromNoneToEight() {
        for (int s = 0; s < 4; s++) {
            for (int n = 0; n <= 8; n++) {
                SectorChain x = new SectorChain();
                damageCells(x, s, n);
                due("spoiled(" + s + ")", x.spoiled(s), n);
                damageCells(x, s, n / 2);
                due("spoiled(" + s + ") with " + n / 2 + " healed", x.spoiled(s), n - n / 2);
            }
        }
    }

    private static void spoiledOfALostSector() {
        for (int s = 0; s < 4; s++) {
            SectorChain x = new SectorChain();
            damageCells(x, s, s * 2);
            x.lose(s);
            due("spoiled(" + s + ")", x.spoiled(s), 64);
            due("spoiled of another", x.spoiled((s + 1) % 4), 0);
        }
    }

    private static void spoiledOfNoSector() {
        SectorChain x = worn(3);
        badFor("spoiled", NOT_SECTORS, x::spoiled);
        SectorChain y = new SectorChain();
        badFor("spoiled with none lost", NOT_SECTORS, y::spoiled);
    }

    // Promise 15

    private static void lostIsEachSector() {
        for (int s = 0; s < 4; s++) {
            SectorChain x = new SectorChain();
            x.lose(s);
            due("lost() after lose(" + s + ")", x.lost(), s);
        }
    }

    private static void lostWhenNoneIs() {
        due("lost() at first", new SectorChain().lost(), BAD);
        for (int way = 0; way < WAYS_OF_WRITING; way++) {
            for (int s = 0; s < 4; s++) {
                SectorChain x = new SectorChain();
                x.lose(s);
                writeInOneWay(x, way, s);
                due("lost() after way " + way + " of writing " + s, x.lost(), BAD);
            }
        }
    }

    // Promise 16

    private static void sumFromLeastToGreatest() {
        SectorChain x = new SectorChain();
        due("sum(0) of none but 0", x.sum(0), 0);
        writeAll(x, 3, filled(255));
        due("sum(3) of none but 255", x.sum(3), 34680);
        damageCells(x, 3, 8);
        due("sum(3) with damage", x.sum(3), 34680);
        x.lose(3);
        due("sum(3) when lost", x.sum(3), 34680);
        putAll(x, filled(0));
        x.put(0, 255);
        x.write(1);
        due("sum(1) of byte 0", x.sum(1), 255);
        x.put(0, 0);
        x.put(15, 255);
        x.write(1);
        due("sum(1) of byte 15", x.sum(1), 4080);
    }

    private static void sumOfNoSector() {
        SectorChain x = written();
        badFor("sum", NOT_SECTORS, x::sum);
    }

    // Promise 17

    private static void findFromEveryPlace() {
        SectorChain x = new SectorChain();
        x.put(0, 255);
        x.put(8, 255);
        x.put(15, 255);
        x.write(3);
        for (int from = -1; from <= 17; from++) {
            int want = from <= 0 ? 0 : from <= 8 ? 8 : from <= 15 ? 15 : BAD;
            due("find(3, 255, " + from + ")", x.find(3, 255, from), want);
        }
        due("find(3, 0, 0)", x.find(3, 0, 0), 1);
        due("find(3, 0, 14)", x.find(3, 0, 14), 14);
        due("find(3, 0, 15)", x.find(3, 0, 15), BAD);
        x.damage(3, 0, 16383);
        due("find(3, 255, 9) with damage", x.find(3, 255, 9), 15);
        x.lose(3);
        due("find(3, 255, 9) when lost", x.find(3, 255, 9), 15);
    }

    private static void findFromAnyInt() {
        SectorChain x = new SectorChain();
        x.put(0, 7);
        x.write(0);
        x.write(3);
        for (int s : new int[] {0, 3}) {
            for (int from : new int[] {LEAST, LEAST + 1, LEAST + 16, -65536, -256, -48, -17, -16, -1}) {
                due("find(" + s + ", 7, " + from + ")", x.find(s, 7, from), 0);
                due("find(" + s + ", 0, " + from + ")", x.find(s, 0, from), 1);
            }
            for (int from : new int[] {GREATEST, GREATEST - 15, GREATEST - 47, 1 << 28, 65536, 256, 64, 17, 16}) {
                due("find(" + s + ", 7, " + from + ")", x.find(s, 7, from), BAD);
                due("find(" + s + ", 0, " + from + ")", x.find(s, 0, from), BAD);
            }
        }
    }

    private static void findWhenThereIsNone() {
        SectorChain x = new SectorChain();
        writeAll(x, 1, filled(255));
        due("find(1, 0, 0)", x.find(1, 0, 0), BAD);
        due("find(0, 255, 0)", x.find(0, 255, 0), BAD);
        due("find(2, 255, 0)", x.find(2, 255, 0), BAD);
        due("find(0, 255, 15), the next sector begins with it", x.find(0, 255, 15), BAD);
        due("find(2, 255, -1), the sector before ends with it", x.find(2, 255, -1), BAD);
        for (int v : NOT_BYTES) {
            due("find(0, " + v + ", 0)", x.find(0, v, 0), BAD);
            due("find(1, " + v + ", 0)", x.find(1, v, 0), BAD);
        }
    }

    private static void findInNoSector() {
        SectorChain x = new SectorChain();
        for (int from : new int[] {0, 15, LEAST, GREATEST}) {
            badFor("find(.., 0, " + from + ")", NOT_SECTORS, s -> x.find(s, 0, from));
        }
    }

    // Promise 18

    private static void codesChangeNothing() {
        for (int i : NOT_PLACES) {
            changesNothing("get(" + i + ")", x -> x.get(i));
            changesNothing("byteOf(3, " + i + ")", x -> x.byteOf(3, i));
        }
        for (int s : NOT_SECTORS) {
            changesNothing("calls of one sector with " + s, x -> {
                x.read(s);
                x.damage(s, 0, 1);
                x.scrub(s);
                x.byteOf(s, 0);
                x.touched(s);
                x.spoiled(s);
                x.sum(s);
                x.find(s, 0, 0);
            });
        }
        for (int cell : NOT_CELLS) {
            changesNothing("damage(1, " + cell + ", 1)", x -> x.damage(1, cell, 1));
        }
        for (int how : NOT_DAMAGES) {
            changesNothing("damage(1, 9, " + how + ")", x -> x.damage(1, 9, how));
        }
        for (int lost = 0; lost < 4; lost++) {
            int gone = lost;
            changesNothing("damage of a lost sector", lost, x -> x.damage(gone, 9, 1));
        }
        for (int lost : new int[] {BAD, 1, 2, 3}) {
            changesNothing("damage of a ninth", lost, x -> x.damage(0, 62, 1));
        }
        changesNothing("find of what there is not", x -> x.find(0, 256, 0));
        changesNothing("lost()", x -> x.lost());
    }

    private static void falseChangesNothing() {
        for (int i : NOT_PLACES) {
            changesNothing("put(" + i + ", 1)", x -> x.put(i, 1));
        }
        for (int v : NOT_BYTES) {
            changesNothing("put(0, " + v + ")", x -> x.put(0, v));
        }
        for (int s : NOT_SECTORS) {
            changesNothing("write(" + s + ")", x -> x.write(s));
            changesNothing("lose(" + s + ")", x -> x.lose(s));
            for (int good = 0; good < 4; good++) {
                int t = good;
                changesNothing("copy(" + s + ", " + t + ")", x -> x.copy(s, t));
                changesNothing("copy(" + t + ", " + s + ")", x -> x.copy(t, s));
                changesNothing("swap(" + s + ", " + t + ")", x -> x.swap(s, t));
                changesNothing("swap(" + t + ", " + s + ")", x -> x.swap(t, s));
                changesNothing("same(" + s + ", " + t + ")", x -> x.same(s, t));
                changesNothing("same(" + t + ", " + s + ")", x -> x.same(t, s));
            }
        }
        for (int s = 0; s < 4; s++) {
            int one = s;
            for (int lost = 0; lost < 4; lost++) {
                changesNothing("lose(" + s + ")", lost, x -> x.lose(one));
            }
            changesNothing("same(" + s + ", " + (s + 1) % 4 + ")", x -> x.same(one, (one + 1) % 4));
        }
    }
}
