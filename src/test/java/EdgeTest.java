import java.util.List;
import java.util.function.Consumer;
import java.util.function.ToLongFunction;

/**
 * Each sentence of the document that names an edge: the value just inside and the one just outside. The sentences of
 * "Terms" come first, then the promises in their order. What refused calls leave behind is in RefusedTest.
 */
public final class EdgeTest {
    private static final int NO_SUCH = -1, BAD_VALUE = -2, BAD_TEXT = -3, TOO_MANY = -4, NOT_POSSIBLE = -5, NONE = -6;
    private static final int LOUD = 0, LEAST = 1, SLIP = 2;
    private static final int WHOLE = 0, LOST = 1, BROKEN = 2, UNSURE = 3;

    private EdgeTest() {
    }

    public static void main(String[] args) {
        terms();
        changes();
        whatThereIs();
        whatIf();
        texts();
        undoAndSaving();
        Due.end();
    }

    private static void terms() {
        settingsAndTheirRanges();
        numberedFromNought();
        bytesOfABlock();
        checksOfBytes();
        sumsLeftOver();
        leaders();
        leadersByLeast();
        silentCells();
        turnedCells();
        statesAheadOfEachOther();
        loadedByOneTelling();
        loadedByBoth();
        loadedByBothWhateverTheByte();
        loadedByBothNotFromLost();
        countersRoundDown();
        countersGoRound();
    }

    private static void changes() {
        writeUpToSixteen();
        writeUnderEarlierOnes();
        writeNamesAndMany();
        wipeLastDownToNone();
        fadeEnds();
        fadeVolumes();
        spoilEnds();
        nothingElseChanges();
    }

    private static void whatThereIs() {
        ofOnTheEdges();
        loadOnTheEdges();
        readOnTheEdges();
        cellOnTheEdges();
        countOnTheEdges();
        countSets();
        reachedOnTheEdges();
    }

    private static void whatIf() {
        nearHalfWayRound();
        nearRanks();
        mostLeastOnTheEdges();
        weakOnTheEdges();
        widestOnTheEdges();
    }

    private static void texts() {
        putCodes();
        putLengths();
        wipeEmptyAndFull();
        faultAtEachPlace();
        faultOfNumbers();
        faultOfFullPad();
        carryOutNumbers();
        carryOutAsOneChange();
        carryOutMostOrders();
    }

    private static void undoAndSaving() {
        undoOfSixStates();
        undoOfTheFullHistory();
        undoOfEachChange();
        undoLeavesPadAndSlots();
        saveAndRestoreEdges();
    }

    private static CassetteTones oneBlock(int many, long bytes) {
        CassetteTones x = new CassetteTones();
        x.write(0, NONE, many, bytes);
        return x;
    }

    // ---- terms

    private static void settingsAndTheirRanges() {
        int[] firsts = {60, 30, 3};
        int[] mosts = {99, 99, 20};
        for (int setting = LOUD; setting <= SLIP; setting++) {
            String name = "2: setting " + setting;
            CassetteTones x = new CassetteTones();
            Due.is(name + " at first", x.count(6 + setting), firsts[setting]);
            Due.is(name + " to 0 tells the first value", x.set(setting, 0), firsts[setting]);
            Due.is(name + " is 0", x.count(6 + setting), 0);
            Due.is(name + " below 0", x.set(setting, -1), BAD_VALUE);
            Due.is(name + " stays 0", x.count(6 + setting), 0);
            Due.is(name + " to the most", x.set(setting, mosts[setting]), 0);
            Due.is(name + " above the most", x.set(setting, mosts[setting] + 1), BAD_VALUE);
            Due.is(name + " stays the most", x.count(6 + setting), mosts[setting]);
            Due.is(name + " one less tells the most", x.set(setting, mosts[setting] - 1), mosts[setting]);
            for (int other = LOUD; other <= SLIP; other++) {
                if (other != setting) {
                    Due.is(name + " leaves " + other, x.count(6 + other), firsts[other]);
                }
            }
        }
        CassetteTones x = new CassetteTones();
        Due.is("2: setting below LOUD", x.set(LOUD - 1, 0), BAD_VALUE);
        Due.is("2: setting above SLIP", x.set(SLIP + 1, 0), BAD_VALUE);
    }

    private static void numberedFromNought() {
        CassetteTones x = new CassetteTones();
        int first = 0;
        for (int many = 1; many <= 7; many++) {
            int telling = 4 + 9 * many + 9;
            int block = many - 1;
            Due.is("3: the number of a block", x.write(0, NONE, many, 0), block);
            Due.is("tape: first cell of " + many + " bytes", x.of(block, 3), first);
            Due.is("tape: cells of " + many + " bytes", x.of(block, 4), 2 * telling + 2);
            int[] edges = {0, telling - 1, telling, 2 * telling - 1, 2 * telling, 2 * telling + 1};
            int[] parts = {0, 0, 1, 1, 2, 2};
            for (int edge = 0; edge < edges.length; edge++) {
                Due.is("tape: part at " + edges[edge], x.cell(first + edges[edge], 4), parts[edge]);
                Due.is("tape: block at " + edges[edge], x.cell(first + edges[edge], 3), block);
            }
            first += 2 * telling + 2;
            Due.is("tape: cells of the tape", x.count(1), first);
            Due.is("tape: no cell behind", x.cell(first, 3), NO_SUCH);
        }
    }

    private static void bytesOfABlock() {
        for (int many = 1; many <= 7; many++) {
            long all = (1L << 8 * many) - 1;
            Due.is("3: bits above " + many + " bytes do not matter", oneBlock(many, -1).load(0), all);
            Due.is("3: nothing but bits above " + many + " bytes", oneBlock(many, ~all).load(0), 0);
            for (int place = 0; place < many; place++) {
                for (int value : new int[] {0, 1, 128, 255}) {
                    CassetteTones x = oneBlock(many, (long) value << 8 * place);
                    Due.is("3: the byte " + value + " at " + place, x.read(0, 0, place), value);
                    Due.is("3: the byte in the telling 1", x.read(0, 1, place), value);
                    Due.is("3: loaded at its place", x.load(0), (long) value << 8 * place);
                }
            }
        }
    }

    private static void checksOfBytes() {
        int[] values = {0, 1, 2, 3, 127, 128, 254, 255};
        for (int value : values) {
            CassetteTones x = oneBlock(1, value);
            for (int telling = 0; telling <= 1; telling++) {
                int from = 22 * telling + 4;
                for (int bit = 0; bit < 8; bit++) {
                    Due.is("tape: bit " + bit + " of " + value, x.cell(from + bit, 2), value >> bit & 1);
                }
                Due.is("tape: check of " + value, x.cell(from + 8, 2), Integer.bitCount(value) % 2);
                Due.is("tape: check of the sum " + value, x.cell(from + 17, 2), Integer.bitCount(value) % 2);
            }
        }
    }

    private static void sumsLeftOver() {
        long[][] sums = {{1, 255, 255}, {2, 0x01FF, 0}, {2, 0x02FF, 1}, {2, 0x01FE, 255}, {2, 0x8080, 0}, {1, 0, 0},
            {7, 0xFFFFFFFFFFFFFFL, 249}, {3, 0x0101FF, 1}, {3, 0xFFFFFF, 253}};
        for (long[] sum : sums) {
            CassetteTones x = oneBlock((int) sum[0], sum[1]);
            Due.is("tape: the sum, telling 0", x.read(0, 0, (int) sum[0]), sum[2]);
            Due.is("tape: the sum, telling 1", x.read(0, 1, (int) sum[0]), sum[2]);
            Due.is("reader: such a sum is right", x.of(0, 5) * 10 + x.of(0, 6), WHOLE);
        }
    }

    // All cells are just as loud as LEAST; those of the set are just less loud.
    private static void leaders() {
        for (int telling = 0; telling <= 1; telling++) {
            for (int faded = 0; faded < 16; faded++) {
                CassetteTones x = new CassetteTones();
                x.set(LOUD, 30);
                x.write(0, NONE, 1, 9);
                for (int cell = 0; cell < 4; cell++) {
                    if ((faded >> cell & 1) == 1) {
                        x.fade(22 * telling + cell, 22 * telling + cell, 29);
                    }
                }
                int due = Integer.bitCount(faded) > 2 ? LOST : WHOLE;
                Due.is("reader: leader without " + faded, x.of(0, 5 + telling), due);
                Due.is("reader: a byte behind it", x.read(0, telling, 0), due == LOST ? NONE : 9);
                Due.is("reader: the sum behind it", x.read(0, telling, 1), due == LOST ? NONE : 9);
                Due.is("reader: the other telling", x.of(0, 6 - telling), WHOLE);
            }
        }
    }

    private static void leadersByLeast() {
        for (int loud : new int[] {0, 1, 50, 98}) {
            CassetteTones x = new CassetteTones();
            x.set(LOUD, loud);
            x.write(0, NONE, 1, 9);
            x.set(LEAST, loud);
            Due.is("reader: as loud as LEAST, " + loud, x.of(0, 5) * 10 + x.of(0, 6), WHOLE);
            Due.is("11: none is silent at " + loud, x.count(4), 0);
            x.set(LEAST, loud + 1);
            Due.is("reader: less loud than LEAST, " + loud, x.of(0, 5) * 10 + x.of(0, 6), LOST * 10 + LOST);
            Due.is("11: all are silent above " + loud, x.count(4), 46);
        }
        CassetteTones loudest = new CassetteTones();
        loudest.set(LOUD, 99);
        loudest.set(LEAST, 99);
        loudest.write(0, NONE, 1, 9);
        Due.is("reader: 99 is heard by 99", loudest.of(0, 5), WHOLE);
    }

    private static void silentCells() {
        for (int cell = 4; cell < 40; cell++) {
            int telling = cell / 22;
            int inTelling = cell % 22;
            if (inTelling < 4) {
                continue;
            }
            CassetteTones x = oneBlock(1, 9);
            x.fade(cell, cell, 30);
            Due.is("reader: not silent at LEAST, " + cell, x.of(0, 5 + telling), WHOLE);
            x.fade(cell, cell, 29);
            boolean inByte = inTelling < 13;
            Due.is("reader: silent below LEAST, " + cell, x.of(0, 5 + telling), inByte ? BROKEN : UNSURE);
            Due.is("9: the byte", x.read(0, telling, 0), inByte ? NONE : 9);
            Due.is("9: the byte of the sum", x.read(0, telling, 1), inByte ? 9 : NONE);
            Due.is("reader: only this telling", x.of(0, 6 - telling), WHOLE);
        }
    }

    private static void turnedCells() {
        for (int from : new int[] {4, 13, 26, 35}) {
            int telling = from / 22;
            boolean inByte = from == 4 || from == 26;
            for (int one = from; one < from + 9; one++) {
                CassetteTones x = oneBlock(1, 9);
                x.spoil(one);
                Due.is("reader: one turned, " + one, x.of(0, 5 + telling), inByte ? BROKEN : UNSURE);
                x.set(LEAST, 0);
                Due.is("reader: nothing is silent by 0, " + one, x.of(0, 5 + telling), inByte ? BROKEN : UNSURE);
                Due.is("9: one turned, " + one, x.read(0, telling, inByte ? 0 : 1), NONE);
                for (int other = from; other < from + 9; other++) {
                    if (other != one) {
                        x.spoil(other);
                        // The check is right then, but the byte or the sum is another one.
                        Due.is("reader: two turned, " + one + " " + other, x.of(0, 5 + telling), UNSURE);
                        x.spoil(other);
                    }
                }
            }
        }
    }

    private static void statesAheadOfEachOther() {
        CassetteTones x = oneBlock(2, 0x0201);
        x.spoil(22);
        Due.is("reader: the sum is not whole", x.of(0, 5), UNSURE);
        x.spoil(13);
        Due.is("reader: broken ahead of unsure", x.of(0, 5), BROKEN);
        x.spoil(4);
        Due.is("reader: both bytes broken", x.of(0, 5), BROKEN);
        x.fade(1, 3, 29);
        Due.is("reader: lost ahead of broken", x.of(0, 5), LOST);
        Tapes.spoilAll(x, 4, 13, 22);
        Due.is("reader: lost ahead of whole", x.of(0, 5), LOST);
        x.set(LEAST, 29);
        Due.is("reader: not lost by a lesser LEAST", x.of(0, 5), WHOLE);
        x.spoil(13);
        Due.is("reader: the last byte broken", x.of(0, 5), BROKEN);
        x.spoil(14);
        Due.is("reader: whole, but the sum is not right", x.of(0, 5), UNSURE);
    }

    private static void loads(String what, CassetteTones x, int way, long bytes) {
        Due.is("7: loaded, " + what, x.of(0, 7), way);
        Due.is("8: loaded, " + what, x.load(0), bytes);
        Due.is("11: loaded, " + what, x.count(2), way == NONE ? 0 : 1);
        Due.is("11: loaded by both, " + what, x.count(3), way == 2 ? 1 : 0);
        Due.is("12: reached, " + what, x.reached(), way == NONE ? 0 : 1);
    }

    private static CassetteTones spoilt(int many, long bytes, int... cells) {
        CassetteTones x = oneBlock(many, bytes);
        Tapes.spoilAll(x, cells);
        return x;
    }

    private static void loadedByOneTelling() {
        loads("both whole", spoilt(1, 9), 0, 9);
        loads("0 broken", spoilt(1, 9, 4), 1, 9);
        loads("1 broken", spoilt(1, 9, 26), 0, 9);
        loads("0 unsure", spoilt(1, 9, 13), 1, 9);
        loads("1 unsure", spoilt(1, 9, 35), 0, 9);
        loads("0 whole, but of other bytes", spoilt(1, 9, 5, 12, 14, 21), 0, 11);
        loads("1 whole, but of other bytes", spoilt(1, 9, 4, 27, 34, 36, 43), 1, 11);
        CassetteTones x = oneBlock(1, 9);
        x.fade(0, 2, 29);
        loads("0 lost", x, 1, 9);
        CassetteTones y = oneBlock(1, 9);
        y.fade(22, 24, 29);
        loads("1 lost", y, 0, 9);
        y.fade(0, 2, 29);
        loads("both lost", y, NONE, NOT_POSSIBLE);
    }

    // Two bytes: the telling 0 has them at 4 and 13, its sum at 22; the telling 1 at 35, 44 and 53.
    private static void loadedByBoth() {
        loads("one byte of each", spoilt(2, 0x0201, 4, 44), 2, 0x0201);
        loads("one byte of each, the other way", spoilt(2, 0x0201, 13, 35), 2, 0x0201);
        loads("sum of 0 alone", spoilt(2, 0x0201, 4, 44, 53), 2, 0x0201);
        loads("sum of 1 alone", spoilt(2, 0x0201, 4, 44, 22), 2, 0x0201);
        loads("no sum", spoilt(2, 0x0201, 4, 44, 22, 53), NONE, NOT_POSSIBLE);
        loads("a byte in none", spoilt(2, 0x0201, 4, 35), NONE, NOT_POSSIBLE);
        loads("the last byte in none", spoilt(2, 0x0201, 13, 44), NONE, NOT_POSSIBLE);
        loads("bytes of 0, sum of 1", spoilt(2, 0x0201, 22, 44), 2, 0x0201);
        loads("bytes of 1, sum of 0", spoilt(2, 0x0201, 4, 13, 53), 2, 0x0201);
        loads("wrong sum in 0, right in 1", spoilt(2, 0x0201, 22, 23, 44), 2, 0x0201);
        loads("right sum in 0, wrong in 1", spoilt(2, 0x0201, 4, 53, 54), 2, 0x0201);
        loads("wrong sums in both", spoilt(2, 0x0201, 22, 23, 53, 54), NONE, NOT_POSSIBLE);
        loads("0 has a byte that is wrong but whole", spoilt(2, 0x0201, 4, 5, 44), NONE, NOT_POSSIBLE);
        loads("1 has a byte that is wrong but whole", spoilt(2, 0x0201, 13, 35, 36), 2, 0x0201);
        loads("sums that are left over", spoilt(2, 0x80FF, 4, 44), 2, 0x80FF);
        CassetteTones silent = oneBlock(2, 0x0201);
        silent.fade(12, 12, 29);
        silent.fade(44, 44, 29);
        loads("silent cells", silent, 2, 0x0201);
        silent.set(LEAST, 29);
        loads("silent no more", silent, 0, 0x0201);
    }

    // A byte or a sum that is whole in none must not pass for any number.
    private static void loadedByBothWhateverTheByte() {
        for (int value = 0; value <= 255; value++) {
            loads("in none, " + value, spoilt(1, value, 4, 26), NONE, NOT_POSSIBLE);
            loads("in none, by its check, " + value, spoilt(1, value, 12, 34), NONE, NOT_POSSIBLE);
            loads("no sum, " + value, spoilt(1, value, 13, 26, 35), NONE, NOT_POSSIBLE);
            loads("byte of 0, sum of 1, " + value, spoilt(1, value, 13, 26), 2, value);
            loads("byte of 1, sum of 0, " + value, spoilt(1, value, 4, 35), 2, value);
            CassetteTones silent = oneBlock(1, value);
            silent.fade(4, 4, 29);
            silent.fade(34, 34, 29);
            loads("silent in both, " + value, silent, NONE, NOT_POSSIBLE);
            CassetteTones last = spoilt(2, value << 8 | 7, 13, 44);
            loads("the last in none, " + value, last, NONE, NOT_POSSIBLE);
        }
    }

    private static void loadedByBothNotFromLost() {
        for (int telling = 0; telling <= 1; telling++) {
            CassetteTones x = spoilt(1, 9, telling == 0 ? 35 : 13);
            x.fade(22 * telling, 22 * telling + 1, 29);
            loads("two cells of a leader are left, " + telling, x, telling, 9);
            x.spoil(22 * telling + 4);
            loads("by both, two cells of a leader are left, " + telling, x, 2, 9);
            x.fade(22 * telling, 22 * telling + 2, 29);
            loads("one cell of a leader is left, " + telling, x, NONE, NOT_POSSIBLE);
        }
    }

    private static void countersRoundDown() {
        int[][] edges = {{1, 99, 99}, {1, 100, 99}, {3, 33, 33}, {3, 34, 33}, {3, 66, 65}, {3, 67, 65}, {20, 4, 4},
            {20, 5, 4}, {20, 9, 8}, {20, 10, 8}, {0, 99, 99}, {0, 100, 100}, {7, 14, 14}, {7, 15, 14}};
        for (int[] edge : edges) {
            CassetteTones x = oneBlock(7, 0);
            x.set(SLIP, edge[0]);
            Due.is("counter: of " + edge[1] + " by " + edge[0], x.cell(edge[1], 5), edge[2]);
        }
        Due.is("counter: of the cell 0", oneBlock(1, 0).cell(0, 5), 0);
    }

    private static void countersGoRound() {
        int[][] edges = {{0, 999, 999}, {0, 1000, 0}, {0, 1999, 999}, {0, 2000, 0}, {0, 2463, 463}, {3, 1029, 999},
            {3, 1030, 0}, {3, 2060, 999}, {3, 2061, 0}, {20, 1248, 999}, {20, 1249, 0}, {20, 2463, 971}};
        for (int[] edge : edges) {
            CassetteTones x = Tapes.withBlocksOf(16, 7);
            x.set(SLIP, edge[0]);
            Due.is("counter: of " + edge[1] + " by " + edge[0], x.cell(edge[1], 5), edge[2]);
        }
        CassetteTones x = Tapes.withBlocksOf(16, 7);
        x.set(SLIP, 0);
        Due.is("7: the counter of the block 6", x.of(6, 9), 924);
        Due.is("7: the counter of the block 7", x.of(7, 9), 78);
        Due.is("7: the counter of the block 15", x.of(15, 9), 310);
        x.set(SLIP, 20);
        Due.is("7: the counter of the block 15, by 20", x.of(15, 9), 848);
    }

    // ---- changes

    private static void writeUpToSixteen() {
        CassetteTones x = new CassetteTones();
        for (int block = 0; block < 16; block++) {
            Due.is("3: block " + block, x.write(block, NONE, 7, block), block);
            Due.is("11: blocks", x.count(0), block + 1);
        }
        Due.is("3: the seventeenth", x.write(0, NONE, 1, 0), TOO_MANY);
        Due.is("11: sixteen", x.count(0), 16);
        Due.is("11: cells of the longest tape", x.count(1), 2464);
        Due.is("4: one less", x.wipeLast(), 15);
        Due.is("3: the sixteenth again", x.write(0, NONE, 1, 0), 15);
        Due.is("3: the seventeenth again", x.write(0, 15, 1, 0), TOO_MANY);
        for (int block = 0; block < 15; block++) {
            Due.is("3: the others stay", x.load(block), block);
        }
    }

    private static void writeUnderEarlierOnes() {
        CassetteTones x = new CassetteTones();
        for (int block = 0; block < 16; block++) {
            Due.is("3: under itself, " + block, x.write(1, block, 1, 0), NO_SUCH);
            Due.is("3: under the last, " + block, x.write(1, block == 0 ? NONE : block - 1, 1, 0), block);
            Due.is("7: it is under it", x.of(block, 1), block == 0 ? NONE : block - 1);
            Due.is("7: depth", x.of(block, 8), block);
        }
        x.wipeLast();
        Due.is("3: under the one that was wiped", x.write(1, 15, 1, 0), NO_SUCH);
        Due.is("3: under -1", x.write(1, -1, 1, 0), NO_SUCH);
        Due.is("3: under one below NONE", x.write(1, NONE - 1, 1, 0), NO_SUCH);
        Due.is("3: under one above NONE", x.write(1, NONE + 1, 1, 0), NO_SUCH);
        Due.is("3: under the first", x.write(1, 0, 1, 0), 15);
        Due.is("7: depth under the first", x.of(15, 8), 1);
    }

    private static void writeNamesAndMany() {
        CassetteTones x = new CassetteTones();
        Due.is("3: name -1", x.write(-1, NONE, 1, 0), BAD_VALUE);
        Due.is("3: name 100", x.write(100, NONE, 1, 0), BAD_VALUE);
        Due.is("3: no bytes", x.write(0, NONE, 0, 0), BAD_VALUE);
        Due.is("3: eight bytes", x.write(0, NONE, 8, 0), BAD_VALUE);
        Due.is("3: nothing was written", x.count(0), 0);
        Due.is("3: name 0, one byte", x.write(0, NONE, 1, 0), 0);
        Due.is("3: name 99, seven bytes", x.write(99, NONE, 7, 0), 1);
        Due.is("7: names", x.of(0, 0) * 100 + x.of(1, 0), 99);
        Due.is("7: how many", x.of(0, 2) * 10 + x.of(1, 2), 17);
        for (int loud : new int[] {0, 99}) {
            x.set(LOUD, loud);
            int block = x.write(1, NONE, 1, 0);
            int first = x.of(block, 3);
            for (int cell : new int[] {first, first + 21, first + 22, first + 43, first + 44, first + 45}) {
                Due.is("tape: written at the volume " + loud, x.cell(cell, 0), loud);
            }
            x.set(LOUD, 50);
            Due.is("tape: LOUD as it was then", x.cell(first, 0), loud);
        }
    }

    private static void wipeLastDownToNone() {
        CassetteTones x = Tapes.withBlocksOf(16, 1);
        for (int left = 15; left >= 0; left--) {
            Due.is("4: left", x.wipeLast(), left);
            Due.is("4: blocks", x.count(0), left);
            Due.is("4: cells", x.count(1), 46 * left);
        }
        Due.is("4: none is there", x.wipeLast(), NOT_POSSIBLE);
        Due.is("3: the first one again", x.write(1, NONE, 2, 0), 0);
        Due.is("11: its cells", x.count(1), 64);
        Due.is("4: the last one again", x.wipeLast(), 0);
        Due.is("4: never one", new CassetteTones().wipeLast(), NOT_POSSIBLE);
    }

    private static void fadeEnds() {
        CassetteTones x = Tapes.withBlocksOf(2, 1);
        Due.is("5: the first cell", x.fade(0, 0, 50), 1);
        Due.is("5: the last cell", x.fade(91, 91, 50), 1);
        Due.is("5: only these", x.cell(1, 0) * 100 + x.cell(90, 0), 6060);
        Due.is("5: from -1", x.fade(-1, 91, 0), NO_SUCH);
        Due.is("5: to -1", x.fade(0, -1, 0), NO_SUCH);
        Due.is("5: from behind the tape", x.fade(92, 92, 0), NO_SUCH);
        Due.is("5: to behind the tape", x.fade(0, 92, 0), NO_SUCH);
        Due.is("5: from is to plus 1", x.fade(46, 45, 0), BAD_VALUE);
        Due.is("5: nothing faded", x.cell(45, 0) * 100 + x.cell(46, 0), 6060);
        Due.is("5: two cells of two blocks", x.fade(45, 46, 0), 2);
        Due.is("5: beside them", x.cell(44, 0) * 100 + x.cell(47, 0), 6060);
        Due.is("5: all", x.fade(0, 91, 40), 90);
        x.wipeLast();
        Due.is("5: what was wiped is no cell", x.fade(45, 46, 0), NO_SUCH);
        Due.is("5: the last one of what is left", x.fade(45, 45, 0), 0);
        CassetteTones full = Tapes.withBlocksOf(16, 7);
        Due.is("5: the longest tape", full.fade(0, 2463, 59), 2464);
        Due.is("5: one more cell than it has", full.fade(0, 2464, 0), NO_SUCH);
    }

    private static void fadeVolumes() {
        CassetteTones x = new CassetteTones();
        x.set(LOUD, 99);
        x.write(0, NONE, 1, 0);
        Due.is("5: 99 is not less loud", x.fade(0, 45, 99), 0);
        Due.is("5: 100", x.fade(0, 45, 100), BAD_VALUE);
        Due.is("5: 98", x.fade(0, 0, 98), 1);
        Due.is("5: 98 again", x.fade(0, 0, 98), 0);
        Due.is("5: they do not become louder", x.fade(0, 1, 99), 0);
        Due.is("5: it is 98", x.cell(0, 0), 98);
        Due.is("5: 1", x.fade(0, 45, 1), 46);
        Due.is("5: -1", x.fade(0, 45, -1), BAD_VALUE);
        Due.is("5: 0", x.fade(0, 45, 0), 46);
        Due.is("5: 0 again", x.fade(0, 45, 0), 0);
        Due.is("5: it is 0", x.cell(45, 0), 0);
    }

    private static void spoilEnds() {
        CassetteTones x = Tapes.withBlocksOf(2, 1);
        for (int cell : new int[] {0, 45, 46, 91}) {
            Due.is("6: bad, " + cell, x.spoil(cell), 1);
            Due.is("10: bad, " + cell, x.cell(cell, 1), 1);
        }
        Due.is("11: four", x.count(5), 4);
        Due.is("6: -1", x.spoil(-1), NO_SUCH);
        Due.is("6: behind the tape", x.spoil(92), NO_SUCH);
        for (int cell : new int[] {0, 45, 46, 91}) {
            Due.is("6: good, " + cell, x.spoil(cell), 0);
        }
        Due.is("11: no bad one", x.count(5), 0);
        x.spoil(91);
        x.wipeLast();
        Due.is("6: what was wiped is no cell", x.spoil(91), NO_SUCH);
        Due.is("6: the first one that was wiped", x.spoil(46), NO_SUCH);
        x.write(0, NONE, 1, 0);
        Due.is("6: the new cell is good", x.cell(91, 1), 0);
        Due.is("6: no tape", new CassetteTones().spoil(0), NO_SUCH);
    }

    private static void nothingElseChanges() {
        List<Consumer<CassetteTones>> changes = List.of(x -> x.write(9, 1, 2, 9), CassetteTones::wipeLast,
            x -> x.fade(46, 91, 1), x -> x.spoil(50), CassetteTones::carryOut, CassetteTones::undo, x -> x.save(1));
        for (int change = 0; change < changes.size(); change++) {
            String name = ": left by the change " + change;
            CassetteTones x = new CassetteTones();
            x.set(LOUD, 51);
            x.set(LEAST, 22);
            x.set(SLIP, 7);
            x.write(1, NONE, 1, 5);
            x.write(2, 0, 1, 6);
            x.spoil(3);
            x.fade(1, 2, 30);
            x.save(0);
            Tapes.putAll(x, "x60");
            x.set(LOUD, 50);
            changes.get(change).accept(x);
            Due.is("2: LOUD" + name, x.count(6), change == 5 ? 51 : 50);
            Due.is("2: LEAST, SLIP" + name, x.count(7) * 100 + x.count(8), 2207);
            Due.is("3: the first block" + name, x.of(0, 0) * 100 + x.load(0), 105);
            Due.is("5: volumes" + name, x.cell(0, 0) * 100 + x.cell(1, 0), 5130);
            Due.is("6: bad cells" + name, x.cell(2, 1) * 10 + x.cell(3, 1), 1);
            Due.is("17: the pad" + name, x.count(9), change == 4 ? 0 : 3);
            Due.is("22: the slot" + name, x.restore(0), 2);
            Due.is("22: what is in it" + name, x.count(6) * 1000 + x.load(1) * 100 + x.count(5) * 10 + x.cell(60, 0) / 51,
                51611);
        }
    }

    // ---- what there is

    private static void ofOnTheEdges() {
        CassetteTones x = new CassetteTones();
        Due.is("7: no block", x.of(0, 0), NO_SUCH);
        x.write(12, NONE, 1, 0);
        Due.is("7: block 0", x.of(0, 0), 12);
        Due.is("7: block 1", x.of(1, 0), NO_SUCH);
        Due.is("7: block -1", x.of(-1, 0), NO_SUCH);
        Due.is("7: what -1", x.of(0, -1), BAD_VALUE);
        Due.is("7: what 9", x.of(0, 9), 0);
        Due.is("7: what 10", x.of(0, 10), BAD_VALUE);
        Due.is("7: no such block is ahead", x.of(1, 10), NO_SUCH);
        CassetteTones full = Tapes.withBlocksOf(16, 7);
        Due.is("7: block 15", full.of(15, 3), 2310);
        Due.is("7: its cells", full.of(15, 4), 154);
        Due.is("7: block 16", full.of(16, 3), NO_SUCH);
        Due.is("7: under none is depth 0", full.of(15, 8), 0);
        Due.is("7: under NONE", full.of(15, 1), NONE);
        full.wipeLast();
        Due.is("7: wiped", full.of(15, 3), NO_SUCH);
        Due.is("7: the last one then", full.of(14, 3), 2156);
    }

    private static void loadOnTheEdges() {
        CassetteTones x = oneBlock(7, -1);
        Due.is("8: the greatest bytes", x.load(0), 0xFFFFFFFFFFFFFFL);
        Due.is("8: block -1", x.load(-1), -1);
        Due.is("8: block 1", x.load(1), -1);
        x.fade(0, 153, 29);
        Due.is("8: not loaded", x.load(0), -5);
        Due.is("8: no block", new CassetteTones().load(0), -1);
        CassetteTones full = Tapes.withBlocksOf(16, 1);
        Due.is("8: block 15", full.load(15), 15);
        Due.is("8: block 16", full.load(16), -1);
    }

    private static void readOnTheEdges() {
        for (int many : new int[] {1, 7}) {
            CassetteTones x = oneBlock(many, 0x01010101010101L);
            for (int telling = 0; telling <= 1; telling++) {
                Due.is("9: place 0", x.read(0, telling, 0), 1);
                Due.is("9: the last byte", x.read(0, telling, many - 1), 1);
                Due.is("9: the byte of the sum", x.read(0, telling, many), many);
                Due.is("9: behind it", x.read(0, telling, many + 1), NO_SUCH);
                Due.is("9: ahead of the first", x.read(0, telling, -1), NO_SUCH);
            }
            Due.is("9: telling -1", x.read(0, -1, many), BAD_VALUE);
            Due.is("9: telling 2", x.read(0, 2, many), BAD_VALUE);
            Due.is("9: no such place is ahead", x.read(0, 2, many + 1), NO_SUCH);
            Due.is("9: no such block is ahead", x.read(1, 2, 0), NO_SUCH);
            Due.is("9: block -1", x.read(-1, 0, 0), NO_SUCH);
        }
        CassetteTones full = Tapes.withBlocksOf(16, 7);
        Due.is("9: the last byte of the longest tape", full.read(15, 1, 7), 15);
        full.spoil(2461);
        Due.is("9: its last cell", full.read(15, 1, 7), NONE);
        Due.is("9: the same of the telling 0", full.read(15, 0, 7), 15);
        Due.is("9: the one ahead of it", full.read(15, 1, 6), 0);
    }

    private static void cellOnTheEdges() {
        CassetteTones x = new CassetteTones();
        Due.is("10: no cell", x.cell(0, 0), NO_SUCH);
        x.write(0, NONE, 1, 255);
        Due.is("10: cell -1", x.cell(-1, 0), NO_SUCH);
        Due.is("10: cell 45", x.cell(45, 0), 60);
        Due.is("10: cell 46", x.cell(46, 0), NO_SUCH);
        Due.is("10: what -1", x.cell(45, -1), BAD_VALUE);
        Due.is("10: what 5", x.cell(45, 5), 44);
        Due.is("10: what 6", x.cell(45, 6), BAD_VALUE);
        Due.is("10: no such cell is ahead", x.cell(46, 6), NO_SUCH);
        int[] noBits = {0, 3, 22, 25, 44, 45};
        Tapes.spoilAll(x, noBits);
        for (int cell : noBits) {
            Due.is("10: no bit at " + cell, x.cell(cell, 2), 0);
        }
        for (int cell : new int[] {4, 11, 13, 20, 26, 33, 35, 42}) {
            Due.is("10: the bit at " + cell, x.cell(cell, 2), 1);
            x.spoil(cell);
            Due.is("10: the other bit at " + cell, x.cell(cell, 2), 0);
        }
        x.fade(0, 45, 0);
        Due.is("10: whatever its volume", x.cell(4, 2) * 10 + x.cell(5, 2), 1);
        CassetteTones full = Tapes.withBlocksOf(16, 7);
        Due.is("10: cell 2463", full.cell(2463, 3), 15);
        for (int cell : new int[] {2310, 2313, 2386, 2389, 2462, 2463}) {
            full.spoil(cell);
            Due.is("10: no bit at " + cell, full.cell(cell, 2), 0);
        }
        for (int cell : new int[] {2314, 2390}) {
            Due.is("10: the bit at " + cell, full.cell(cell, 2), 1);
        }
        Due.is("10: cell 2464", full.cell(2464, 3), NO_SUCH);
    }

    private static void countOnTheEdges() {
        CassetteTones x = new CassetteTones();
        int[] first = {0, 0, 0, 0, 0, 0, 60, 30, 3, 0, 0};
        for (int what = 0; what <= 10; what++) {
            Due.is("11: count(" + what + ") at first", x.count(what), first[what]);
        }
        Due.is("11: what -1", x.count(-1), BAD_VALUE);
        Due.is("11: what 11", x.count(11), BAD_VALUE);
        CassetteTones full = Tapes.withBlocksOf(16, 7);
        Tapes.putAll(full, FULL_PAD);
        int[] due = {16, 2464, 65535, 0, 0, 0, 60, 30, 3, 80, 6};
        for (int what = 0; what <= 10; what++) {
            Due.is("11: count(" + what + ") when all is full", full.count(what), due[what]);
        }
        full.fade(0, 2463, 0);
        Due.is("11: all are silent", full.count(4), 2464);
        full.set(LEAST, 0);
        Due.is("11: none is silent by 0", full.count(4), 0);
        full.spoil(0);
        full.spoil(2463);
        Due.is("11: the first and the last are bad", full.count(5), 2);
    }

    private static void countSets() {
        CassetteTones x = Tapes.withBlocksOf(16, 1);
        int last = 15 * 46;
        Tapes.spoilAll(x, 4, 35, last + 4, last + 35);
        Due.is("11: all are loaded", x.count(2), 65535);
        Due.is("11: the first and the last by both", x.count(3), 1 << 15 | 1);
        Tapes.spoilAll(x, 13, last + 13);
        Due.is("11: the first and the last are not", x.count(2), 65535 - (1 << 15) - 1);
        Due.is("11: none by both", x.count(3), 0);
        x.fade(0, 735, 0);
        Due.is("11: none", x.count(2), 0);
    }

    private static void reachedOnTheEdges() {
        CassetteTones x = Tapes.chain(16);
        Due.is("12: all", x.reached(), 65535);
        x.fade(15 * 46, 16 * 46 - 1, 0);
        Due.is("12: without the last", x.reached(), 32767);
        x.fade(46, 91, 0);
        Due.is("12: what is under one that is not loaded", x.reached(), 1);
        Due.is("12: that is loaded", x.count(2), 32767 - 2);
        x.fade(0, 45, 0);
        Due.is("12: none", x.reached(), 0);
        Due.is("12: no block", new CassetteTones().reached(), 0);
        CassetteTones flat = Tapes.withBlocksOf(16, 1);
        flat.fade(0, 45, 0);
        Due.is("12: under none", flat.reached(), 65534);
    }

    // ---- what if

    private static void nearHalfWayRound() {
        CassetteTones x = Tapes.withBlocksOf(2, 1);
        x.set(SLIP, 0);
        // Their counters are 0 and 46.
        int[][] nearest = {{0, 0}, {22, 0}, {23, 0}, {24, 1}, {46, 1}, {500, 1}, {501, 1}, {522, 1}, {523, 0}, {524, 0},
            {545, 0}, {546, 0}, {547, 0}, {999, 0}};
        for (int[] near : nearest) {
            Due.is("13: the nearest to " + near[0], x.near(near[0], 0), near[1]);
            Due.is("13: the other to " + near[0], x.near(near[0], 1), 1 - near[1]);
        }
        Due.is("13: counter -1", x.near(-1, 0), BAD_VALUE);
        Due.is("13: counter 1000", x.near(1000, 0), BAD_VALUE);
        CassetteTones round = Tapes.withBlocksOf(8, 7);
        round.set(SLIP, 0);
        // The block 6 is at 924, and the block 7 at 1078, whose counter is 78.
        int[][] edges = {{78, 7}, {924, 6}, {961, 6}, {962, 0}, {963, 0}, {999, 0}, {0, 0}, {38, 0}, {39, 0}, {40, 7},
            {115, 7}, {116, 1}, {117, 1}};
        for (int[] near : edges) {
            Due.is("13: the nearest to " + near[0] + ", round", round.near(near[0], 0), near[1]);
        }
    }

    // The block 11 has the counter 491; those behind it come nearer to 0 again, the other way round.
    private static void nearRanks() {
        CassetteTones x = new CassetteTones();
        Due.is("13: no block", x.near(0, 0), NO_SUCH);
        for (int blocks = 1; blocks <= 16; blocks++) {
            x.write(0, NONE, 1, 0);
            Due.is("13: the first rank", x.near(0, 0), 0);
            Due.is("13: the last rank", x.near(0, blocks - 1), Math.min(blocks - 1, 11));
            Due.is("13: not so many", x.near(0, blocks), NO_SUCH);
            Due.is("13: not so many is ahead", x.near(1000, blocks), NO_SUCH);
            Due.is("13: the counter is looked at", x.near(1000, blocks - 1), BAD_VALUE);
        }
        Due.is("13: rank -1", x.near(0, -1), NO_SUCH);
        CassetteTones y = Tapes.withBlocksOf(16, 1);
        y.wipeLast();
        Due.is("13: wiped", y.near(0, 15), NO_SUCH);
    }

    private static void mostLeastOnTheEdges() {
        for (int loud : new int[] {0, 1, 98, 99}) {
            CassetteTones x = new CassetteTones();
            x.set(LOUD, loud);
            x.write(0, NONE, 1, 9);
            Due.is("14: as loud as it is, " + loud, x.mostLeast(0), loud);
            Due.is("14: LEAST stays", x.count(7), 30);
            x.set(LEAST, loud);
            Due.is("14: it is loaded by that", x.of(0, 7), 0);
            if (loud < 99) {
                x.set(LEAST, loud + 1);
                Due.is("14: not by one more", x.of(0, 7), NONE);
            }
        }
        CassetteTones x = spoilt(1, 9, 4, 26);
        Due.is("14: none", x.mostLeast(0), NONE);
        Due.is("14: block -1", x.mostLeast(-1), NO_SUCH);
        Due.is("14: block 1", x.mostLeast(1), NO_SUCH);
        Due.is("14: no block", new CassetteTones().mostLeast(0), NO_SUCH);
        CassetteTones full = Tapes.withBlocksOf(16, 7);
        full.fade(2310, 2463, 1);
        Due.is("14: block 15", full.mostLeast(15), 1);
        Due.is("14: block 14", full.mostLeast(14), 60);
        Due.is("14: block 16", full.mostLeast(16), NO_SUCH);
        // Only both together load it, up to 40: there the byte of the telling 1 becomes silent.
        CassetteTones both = spoilt(1, 9, 4, 35);
        both.fade(26, 26, 40);
        Due.is("14: by both", both.mostLeast(0), 40);
    }

    private static void weakOnTheEdges() {
        for (int many = 1; many <= 7; many++) {
            CassetteTones x = oneBlock(many, -1);
            int telling = 4 + 9 * (many + 1);
            Due.is("15: telling 0 of " + many, x.weak(0, 0), 9 * (many + 1));
            Due.is("15: telling 1 of " + many, x.weak(0, 1), 9 * (many + 1));
            x.spoil(2 * telling - 1);
            Due.is("15: telling 1 is not whole", x.weak(0, 1), NOT_POSSIBLE);
            Due.is("15: telling 0 is", x.weak(0, 0), 9 * (many + 1));
        }
        CassetteTones x = oneBlock(1, 9);
        Due.is("15: telling -1", x.weak(0, -1), BAD_VALUE);
        Due.is("15: telling 2", x.weak(0, 2), BAD_VALUE);
        Due.is("15: block -1", x.weak(-1, 0), NO_SUCH);
        Due.is("15: block 1", x.weak(1, 0), NO_SUCH);
        Due.is("15: no such block is ahead", x.weak(1, 2), NO_SUCH);
        Tapes.spoilAll(x, 0, 1, 2, 3, 44, 45);
        Due.is("15: leaders and what is behind do not matter", x.weak(0, 0), 18);
        x.fade(0, 2, 29);
        Due.is("15: lost", x.weak(0, 0), NOT_POSSIBLE);
        Due.is("15: lost, no such telling is ahead", x.weak(0, 2), BAD_VALUE);
        x.spoil(35);
        Due.is("15: unsure", x.weak(0, 1), NOT_POSSIBLE);
        x.spoil(36);
        Due.is("15: whole sum that is not right", x.weak(0, 1), NOT_POSSIBLE);
    }

    private static void widestOnTheEdges() {
        CassetteTones x = new CassetteTones();
        Due.is("16: no block", x.widest(0) * 10 + x.widest(1), NONE * 11);
        Due.is("16: what -1", x.widest(-1), BAD_VALUE);
        Due.is("16: what 2", x.widest(2), BAD_VALUE);
        x.write(0, NONE, 1, 0);
        Due.is("16: one block, none under it", x.widest(0) * 10 + x.widest(1), 0);
        x.write(0, NONE, 1, 0);
        Due.is("16: of two the lowest", x.widest(0) * 10 + x.widest(1), 0);
        x.write(0, 1, 1, 0);
        Due.is("16: one under the second", x.widest(0) * 10 + x.widest(1), 11);
        x.write(0, 0, 1, 0);
        Due.is("16: of two with one the lowest", x.widest(0) * 10 + x.widest(1), 1);
        x.fade(0, 45, 0);
        Due.is("16: the first is not reached", x.widest(0) * 10 + x.widest(1), 11);
        x.fade(0, 183, 0);
        Due.is("16: none is reached", x.widest(0) * 10 + x.widest(1), NONE * 11);
        CassetteTones chain = Tapes.chain(16);
        Due.is("16: all under the first", chain.widest(0) * 100 + chain.widest(1), 15);
        chain.fade(8 * 46, 9 * 46 - 1, 0);
        Due.is("16: up to one that is not loaded", chain.widest(0) * 100 + chain.widest(1), 7);
        CassetteTones last = Tapes.withBlocksOf(16, 1);
        last.fade(0, 15 * 46 - 1, 0);
        Due.is("16: the last alone", last.widest(0) * 100 + last.widest(1), 1500);
        CassetteTones star = new CassetteTones();
        star.write(0, NONE, 1, 0);
        for (int block = 1; block < 16; block++) {
            star.write(0, block < 3 ? NONE : 2, 1, 0);
        }
        Due.is("16: thirteen under the third", star.widest(0) * 100 + star.widest(1), 213);
    }

    // ---- texts

    private static final String FULL_PAD =
        "x10;x11;x12;x13;x14;x15;x16;x17;x18;x19;x20;x21;x22;x23;x24;x25;x26;f0-9=30;x123";

    private static void putCodes() {
        for (int many = 1; many <= 8; many++) {
            for (int place = 0; place < many; place++) {
                CassetteTones x = new CassetteTones();
                for (int code : new int[] {0, 1, 31, 32, 127, 128, 255}) {
                    boolean noMore = code == 0 && place == many - 1 && many > 1;
                    if (!noMore) {
                        Due.is("17: " + code + " at " + place + " of " + many, x.put(with(many, place, code)), BAD_VALUE);
                    }
                }
                Due.is("17: 33 at " + place, x.put(with(many, place, 33)), many);
                Due.is("17: 126 at " + place, x.put(with(many, place, 126)), 2 * many);
            }
        }
        CassetteTones x = new CassetteTones();
        Due.is("17: no character", x.put(0), BAD_VALUE);
        Due.is("17: a bit above eight that are 0", x.put(0x10041L), BAD_VALUE);
        Due.is("17: the highest bit above eight that are 0", x.put(Long.MIN_VALUE | 0x41L), BAD_VALUE);
        Due.is("17: the pad is empty", x.count(9), 0);
        x.put(Tapes.given("x1;x2;x3"));
        x.put(Tapes.given(";x4?;x5"));
        Due.is("17: the lowest 8 bits are the last character", x.fault(), 11);
    }

    /** Characters that are all 'A' but for the one at a place, counted from the lowest bits. */
    private static long with(int many, int place, int code) {
        long characters = 0;
        for (int at = many - 1; at >= 0; at--) {
            characters = characters << 8 | (at == place ? code : 'A');
        }
        return characters;
    }

    private static void putLengths() {
        for (int many = 1; many <= 8; many++) {
            long given = with(many, 0, 'A');
            CassetteTones x = new CassetteTones();
            int length = 0;
            while (length + 8 <= 80 - many) {
                length = x.put(with(8, 0, 'A'));
            }
            while (length < 80 - many) {
                length = x.put('A');
            }
            Due.is("17: just room for " + many, x.put(given), 80);
            Due.is("17: no room for one more", x.put('A'), TOO_MANY);
            Due.is("17: wrong is ahead of full", x.put(32), BAD_VALUE);
            Due.is("17: nothing is ahead of full", x.put(0), BAD_VALUE);
            Due.is("17: it is full", x.count(9), 80);
            CassetteTones y = new CassetteTones();
            for (int part = 0; part < 80 - many + 1; part++) {
                y.put('A');
            }
            Due.is("17: one too few places for " + many, y.put(given), TOO_MANY);
            Due.is("17: none of them is appended", y.count(9), 80 - many + 1);
        }
    }

    private static void wipeEmptyAndFull() {
        CassetteTones x = new CassetteTones();
        Due.is("18: empty", x.wipe(), 0);
        Tapes.putAll(x, FULL_PAD);
        Due.is("18: full", x.wipe(), 80);
        Due.is("18: empty then", x.wipe(), 0);
        Due.is("18: count(9)", x.count(9), 0);
        Due.is("19: the fault of an empty pad", x.fault(), 0);
        Due.is("18: there is room again", x.put('x'), 1);
        Due.is("18: no change", x.undo(), NOT_POSSIBLE);
    }

    // At each of its places, a text is cut off, has a wrong character put in, and has its character told twice.
    private static void faultAtEachPlace() {
        fault("", 0);
        String[] texts = {"+1:2", "+1^2:3", "+1:2,3", "+1^2:3,4,5", "f1-2=3", "x1", "x1;x2", "x1;+1:2;f1-2=3"};
        for (String text : texts) {
            fault(text, NONE);
            for (int length = 0; length < text.length(); length++) {
                String begun = text.substring(0, length);
                char next = text.charAt(length);
                boolean complete = next == ';' || next == ',';
                fault(begun, complete ? NONE : length);
                for (char wrong : new char[] {'!', '~', '/', 'F', 'X', '*', '<', '_', '.'}) {
                    fault(begun + wrong + text.substring(length), length);
                }
                boolean digit = next >= '0' && next <= '9';
                if (!digit) {
                    fault(begun + next + next + text.substring(length + 1), length + 1);
                }
            }
        }
    }

    private static void fault(String text, int want) {
        CassetteTones x = Tapes.withPad(text);
        Due.is("19: fault of " + text, x.fault(), want);
        Due.is("19: the pad stays, " + text, x.count(9), text.length());
        if (want != NONE) {
            Due.is("20: a pad with a fault, " + text, x.carryOut(), BAD_TEXT);
            Due.is("20: it stays, " + text, x.count(9), text.length());
            Due.is("20: no change, " + text, x.count(10), 0);
        }
    }

    private static void faultOfNumbers() {
        String[][] around = {{"+", ":1"}, {"+1^", ":1"}, {"+1:", ""}, {"+1:", ",2"}, {"+1:2,", ""}, {"f", "-1=1"},
            {"f1-", "=1"}, {"f1-1=", ""}, {"x", ""}, {"x", ";x1"}};
        for (String[] pair : around) {
            int from = pair[0].length();
            for (String number : new String[] {"0", "9", "10", "100", "1000", "9999", "9000"}) {
                fault(pair[0] + number + pair[1], NONE);
            }
            for (String number : new String[] {"10000", "99990", "12345", "99999"}) {
                fault(pair[0] + number + pair[1], from + 4);
            }
            for (String number : new String[] {"00", "01", "09", "00000"}) {
                fault(pair[0] + number + pair[1], from + 1);
            }
            for (String number : new String[] {"", "-1", "+1", "/", ":"}) {
                fault(pair[0] + number + pair[1], from);
            }
        }
    }

    private static void faultOfFullPad() {
        fault(FULL_PAD, NONE);
        for (int place = 0; place < 80; place++) {
            String text = FULL_PAD.substring(0, place) + '!' + FULL_PAD.substring(place + 1);
            fault(text, place);
        }
        fault(FULL_PAD.substring(0, 79) + ';', 80);
        fault(FULL_PAD.substring(0, 76) + "+1:1", NONE);
        fault(FULL_PAD.substring(0, 76) + "+1^1", 80);
        fault(FULL_PAD.substring(0, 76) + "f1-1", 80);
        fault(FULL_PAD.substring(0, 76) + "+12:", 80);
        fault(FULL_PAD.substring(0, 76) + "x1;f", 80);
    }

    private static void carriesOut(String text, int want) {
        CassetteTones x = new CassetteTones();
        Tapes.putAll(x, "+0:1;+99^0:255,0;");
        Tapes.putAll(x, text);
        Due.is("20: two orders and " + text, x.carryOut(), 2 + want);
        Due.is("20: the pad is empty, " + text, x.count(9), 0);
        Due.is("20: one change, " + text, x.count(10), 1);
        Due.is("20: undone, " + text, x.undo() * 100 + x.count(0), 0);
    }

    // The blocks 0 and 1 have the cells 0 to 109.
    private static void carryOutNumbers() {
        String[] inside = {"+0:0", "+99:0", "+1^1:0", "+1^0:0", "+1:255", "+1:0,255", "+1:1,2,3,4,5,6,7", "f0-0=0",
            "f109-109=99", "f0-109=0", "f108-109=1", "x0", "x109"};
        String[] outside = {"+100:0", "+9999:0", "+1^2:0", "+1^16:0", "+1^9999:0", "+1:256", "+1:9999", "+1:0,256",
            "+1:1,2,3,4,5,6,7,8", "+1:1,2,3,4,5,6,256", "+1:1,2,3,4,5,6,7,256", "f0-110=0", "f110-110=0",
            "f109-108=0", "f1-0=0", "f0-0=100", "f0-109=9999", "f9999-0=0", "x110", "x9999"};
        for (String order : inside) {
            carriesOut(order, 1);
            carriesOut(order + ";x0", 2);
            carriesOut("x0;" + order, 2);
        }
        for (String order : outside) {
            carriesOut(order, 0);
            carriesOut(order + ";x0", 0);
            carriesOut("x0;" + order + ";x0", 1);
            CassetteTones x = Tapes.withPad(order + ";x0");
            Due.is("20: none is carried out, " + order, x.carryOut(), 0);
            Due.is("20: but it is a change, " + order, x.count(10), 1);
            Due.is("20: and the pad is empty, " + order, x.count(9), 0);
        }
        CassetteTones seven = Tapes.withPad("+7:0,1,127,128,254,255,2");
        Due.is("20: seven bytes", seven.carryOut(), 1);
        Due.is("20: as they are", seven.load(0), 0x02FFFE807F0100L);
        Due.is("20: under none", seven.of(0, 1), NONE);
    }

    private static void carryOutAsOneChange() {
        CassetteTones x = new CassetteTones();
        for (int change = 0; change < 5; change++) {
            x.set(LEAST, change);
        }
        Tapes.putAll(x, "+1:2;x0;x1;f0-3=4");
        Due.is("20: four orders", x.carryOut(), 4);
        Due.is("20: recorded once", x.count(10), 6);
        Tapes.putAll(x, "x0;x0;x46;x0");
        Due.is("20: up to the third", x.carryOut(), 2);
        Due.is("20: the history is full", x.count(10), 6);
        Tapes.putAll(x, "x9999");
        Due.is("20: none", x.carryOut(), 0);
        Due.is("20: the history is full again", x.count(10), 6);
        Due.is("21: back ahead of the third text", x.undo() * 100 + x.count(5), 502);
        Due.is("21: back ahead of the second text", x.undo() * 100 + x.count(5), 402);
        Due.is("21: back ahead of the first text", x.undo() * 100 + x.count(0), 300);
        Due.is("21: the sets", x.undo() * 100 + x.count(7), 203);
        CassetteTones full = Tapes.withBlocksOf(15, 1);
        Tapes.putAll(full, "+1:1;+2:2;x0");
        Due.is("20: the sixteenth but not the seventeenth", full.carryOut(), 1);
        Due.is("20: sixteen", full.count(0), 16);
        Due.is("20: no order behind it", full.count(5), 0);
        Tapes.putAll(full, "+1:1");
        Due.is("20: full", full.carryOut(), 0);
    }

    private static void carryOutMostOrders() {
        StringBuilder text = new StringBuilder("x0");
        for (int order = 1; order < 27; order++) {
            text.append(";x").append(order % 10);
        }
        CassetteTones x = new CassetteTones();
        x.write(0, NONE, 1, 0);
        Tapes.putAll(x, text.toString());
        Due.is("19: 80 characters", x.count(9), 80);
        Due.is("19: 27 orders", x.fault(), NONE);
        Due.is("20: 27 orders", x.carryOut(), 27);
        Due.is("20: the last one is carried out", x.count(5), 7);
        Due.is("20: one change", x.count(10), 2);
    }

    // ---- undo, saving

    private static void undoOfSixStates() {
        for (int changes = 0; changes <= 8; changes++) {
            CassetteTones x = new CassetteTones();
            for (int change = 1; change <= changes; change++) {
                x.set(LEAST, change);
                Due.is("21: recorded", x.count(10), Math.min(change, 6));
            }
            int kept = Math.min(changes, 6);
            for (int back = 1; back <= kept; back++) {
                Due.is("21: left of " + changes, x.undo(), kept - back);
                Due.is("21: LEAST as it was", x.count(7), changes == back ? 30 : changes - back);
            }
            Due.is("21: none is left of " + changes, x.undo(), NOT_POSSIBLE);
            Due.is("21: the oldest that is kept", x.count(7), changes <= 6 ? 30 : changes - 6);
            Due.is("21: none is left", x.count(10), 0);
            x.set(LOUD, 1);
            Due.is("21: recorded anew", x.undo() * 100 + x.count(6), 60);
        }
    }

    // Seven changes of the largest tape: the first one cannot be undone any more, the others can, whole.
    private static void undoOfTheFullHistory() {
        Consumer<CassetteTones> run = x -> {
            for (int block = 0; block < 16; block++) {
                x.write(99 - block, block == 0 ? NONE : block - 1, 7, -1L - block);
            }
            x.save(0);
        };
        Consumer<CassetteTones> first = run.andThen(x -> x.fade(2000, 2463, 7));
        Consumer<CassetteTones> six = first.andThen(x -> {
            x.spoil(2463);
            x.wipeLast();
            x.write(1, NONE, 1, 0);
            x.restore(0);
            Tapes.putAll(x, "x0;x2463;f0-9=0");
            x.carryOut();
            x.set(LEAST, 1);
        });
        String before = Look.state(first);
        Due.holds("21: all of the six come back", before.equals(Look.state(six.andThen(x -> undo(x, 6)))));
        Due.holds("21: the seventh does not", before.equals(Look.state(six.andThen(x -> undo(x, 7)))));
        Due.holds("21: not all of them", !before.equals(Look.state(six.andThen(x -> undo(x, 5)))));
    }

    private static void undo(CassetteTones x, int times) {
        for (int time = 0; time < times; time++) {
            x.undo();
        }
    }

    private static void undoOfEachChange() {
        Consumer<CassetteTones> run = x -> {
            x.write(1, NONE, 1, 5);
            x.write(2, 0, 7, 6);
            x.save(1);
            x.set(SLIP, 5);
            Tapes.putAll(x, "x9;+3^1:4");
        };
        String before = Look.state(run);
        records("set", run, before, x -> x.set(LOUD, 9));
        records("set to what it is", run, before, x -> x.set(SLIP, 5));
        records("write", run, before, x -> x.write(3, 1, 3, 9));
        records("wipeLast", run, before, CassetteTones::wipeLast);
        records("fade", run, before, x -> x.fade(40, 50, 0));
        records("fade of nothing", run, before, x -> x.fade(40, 50, 99));
        records("spoil", run, before, x -> x.spoil(199));
        records("carryOut", run, before, CassetteTones::carryOut);
        records("restore", run, before, x -> x.restore(1));
        CassetteTones x = new CassetteTones();
        run.accept(x);
        x.save(0);
        x.put('x');
        x.wipe();
        Due.is("21: save, put and wipe record nothing", x.count(10), 3);
        x.undo();
        Due.is("21: undo records nothing", x.count(10), 2);
    }

    private static void records(String change, Consumer<CassetteTones> run, String before,
            ToLongFunction<CassetteTones> changed) {
        CassetteTones x = new CassetteTones();
        run.accept(x);
        Due.holds("21: " + change + " is carried out", changed.applyAsLong(x) >= 0);
        Due.is("21: " + change + " is recorded once", x.count(10), 4);
        String after = Look.state(run.andThen(y -> {
            changed.applyAsLong(y);
            y.undo();
        }));
        Due.holds("21: " + change + " is undone", after.equals(before));
    }

    private static void undoLeavesPadAndSlots() {
        CassetteTones x = new CassetteTones();
        x.write(1, NONE, 1, 5);
        x.save(0);
        Tapes.putAll(x, "+1:2");
        x.undo();
        Due.is("21: the pad stays", x.count(9), 4);
        Due.is("21: the tape does not", x.count(0), 0);
        Due.is("21: the slot stays", x.restore(0), 1);
        Due.is("20: the pad is carried out", x.carryOut(), 1);
        x.undo();
        Due.is("21: the pad does not come back", x.count(9), 0);
        Due.is("21: the history is not undone", x.count(10), 1);
        Due.is("23: restore is undone", x.undo() * 10 + x.count(0), 0);
    }

    private static void saveAndRestoreEdges() {
        CassetteTones x = new CassetteTones();
        for (int slot = 0; slot <= 1; slot++) {
            Due.is("23: nothing saved in " + slot, x.restore(slot), NOT_POSSIBLE);
            Due.is("22: an empty tape in " + slot, x.save(slot), 0);
            Due.is("23: it was saved in " + slot, x.restore(slot), 0);
        }
        for (int slot : new int[] {-1, 2}) {
            Due.is("22: slot " + slot, x.save(slot), BAD_VALUE);
            Due.is("23: slot " + slot, x.restore(slot), BAD_VALUE);
        }
        Due.is("22: save is no change, restore is", x.count(10), 2);
        Consumer<CassetteTones> full = y -> {
            for (int block = 0; block < 16; block++) {
                y.write(block, NONE, 7, -1L - block);
            }
            y.set(LEAST, 1);
            y.spoil(2463);
        };
        String saved = Look.state(full);
        Consumer<CassetteTones> further = full.andThen(y -> {
            y.save(1);
            y.fade(0, 2463, 0);
            y.set(LEAST, 2);
            undo(y, 3);
            y.wipeLast();
            y.save(0);
            y.restore(1);
        });
        Due.holds("23: the full tape comes back", saved.equals(Look.state(further)));
        Due.holds("23: the slot keeps it", saved.equals(Look.state(further.andThen(y -> {
            y.spoil(0);
            y.wipeLast();
            y.restore(0);
            y.restore(1);
        }))));
        CassetteTones y = new CassetteTones();
        further.accept(y);
        Due.is("22: how many there are", y.save(0), 16);
        Due.is("23: how many there are then", y.restore(0), 16);
        Tapes.putAll(y, "x1");
        y.save(0);
        y.wipe();
        Due.is("23: not the pad", y.restore(0) * 10 + y.count(9), 160);
        int changes = y.count(10);
        Due.is("23: not the history", changes, 6);
        y.undo();
        y.undo();
        y.save(1);
        Due.is("23: restore adds one change", y.restore(1) * 10 + y.count(10), 165);
    }
}
