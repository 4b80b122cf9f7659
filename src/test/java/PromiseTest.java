/** Promise by promise: ordinary inputs, the edges that the document names, wrong inputs and the order of errors. */
public final class PromiseTest {
    private static final int NO_SUCH = -1, BAD_VALUE = -2, BAD_TEXT = -3, TOO_MANY = -4, NOT_POSSIBLE = -5, NONE = -6;
    private static final int LOUD = 0, LEAST = 1, SLIP = 2;
    private static final int LOW = Integer.MIN_VALUE, HIGH = Integer.MAX_VALUE;

    private PromiseTest() {
    }

    public static void main(String[] args) {
        promise1NewObject();
        promise2Set();
        promise3Write();
        promise3WriteWrong();
        promise4WipeLast();
        promise5Fade();
        promise6Spoil();
        promise7Of();
        promise7OfTellings();
        promise7OfLoading();
        promise8Load();
        promise9Read();
        promise10Cell();
        promise11Count();
        promise12Reached();
        promise13Near();
        promise14MostLeast();
        promise15Weak();
        promise16Widest();
        promise17Put();
        promise18Wipe();
        promise19Fault();
        promise19FaultOfNumbers();
        promise20CarryOut();
        promise20CarryOutWrong();
        promise21Undo();
        promise21WhatIsRecorded();
        promise22Save();
        promise23Restore();
        Due.end();
    }

    private static void promise1NewObject() {
        CassetteTones x = new CassetteTones();
        int[] first = {0, 0, 0, 0, 0, 0, 60, 30, 3, 0, 0};
        for (int what = 0; what < first.length; what++) {
            Due.is("1: count(" + what + ") of a new object", x.count(what), first[what]);
        }
        Due.is("1: of(0, 0)", x.of(0, 0), NO_SUCH);
        Due.is("1: cell(0, 0)", x.cell(0, 0), NO_SUCH);
        Due.is("1: undo()", x.undo(), NOT_POSSIBLE);
        Due.is("1: restore(0)", x.restore(0), NOT_POSSIBLE);
        Due.is("1: restore(1)", x.restore(1), NOT_POSSIBLE);
        Due.is("1: constants", CassetteTones.NO_SUCH * 100000 + CassetteTones.BAD_VALUE * 10000
            + CassetteTones.BAD_TEXT * 1000 + CassetteTones.TOO_MANY * 100 + CassetteTones.NOT_POSSIBLE * 10
            + CassetteTones.NONE, -123456);
        Due.is("1: settings", CassetteTones.LOUD * 100 + CassetteTones.LEAST * 10 + CassetteTones.SLIP, 12);
    }

    private static void promise2Set() {
        CassetteTones x = new CassetteTones();
        Due.is("2: LOUD", x.set(LOUD, 99), 60);
        Due.is("2: LOUD again", x.set(LOUD, 0), 99);
        Due.is("2: LOUD at last", x.set(LOUD, 5), 0);
        Due.is("2: LEAST", x.set(LEAST, 99), 30);
        Due.is("2: LEAST again", x.set(LEAST, 0), 99);
        Due.is("2: SLIP", x.set(SLIP, 20), 3);
        Due.is("2: SLIP again", x.set(SLIP, 0), 20);
        Due.is("2: count(6)", x.count(6), 5);
        Due.is("2: count(7)", x.count(7), 0);
        Due.is("2: count(8)", x.count(8), 0);
        for (int setting : new int[] {-1, 3, NONE, LOW, HIGH}) {
            Due.is("2: set(" + setting + ", 1)", x.set(setting, 1), BAD_VALUE);
        }
        for (int value : new int[] {-1, 100, LOW, HIGH}) {
            Due.is("2: set(LOUD, " + value + ")", x.set(LOUD, value), BAD_VALUE);
            Due.is("2: set(LEAST, " + value + ")", x.set(LEAST, value), BAD_VALUE);
            Due.is("2: set(SLIP, " + value + ")", x.set(SLIP, value), BAD_VALUE);
        }
        Due.is("2: set(SLIP, 21)", x.set(SLIP, 21), BAD_VALUE);
        Due.is("2: LOUD stays", x.count(6), 5);
        x.write(0, NONE, 1, 0);
        x.set(LOUD, 70);
        Due.is("2: what is written keeps its volume", x.cell(0, 0), 5);
    }

    private static void promise3Write() {
        CassetteTones x = new CassetteTones();
        Due.is("3: first block", x.write(99, NONE, 3, 0xFFFFFFFFFF03A0C1L), 0);
        Due.is("3: bits above do not matter", x.load(0), 0x03A0C1);
        Due.is("3: second block, under the first", x.write(0, 0, 7, 0x7FEDCBA987654321L), 1);
        Due.is("3: seven bytes", x.load(1), 0xEDCBA987654321L);
        // 4 + 4 * 9 = 40 cells a telling, so the telling 1 begins at 40; both tell the same.
        String told = "0000" + "100000111" + "000001010" + "110000000" + "001001101";
        for (int cell = 0; cell < 80; cell++) {
            Due.is("3: bit " + cell, x.cell(cell, 2), told.charAt(cell % 40) - '0');
            Due.is("3: volume " + cell, x.cell(cell, 0), 60);
            Due.is("3: bad " + cell, x.cell(cell, 1), 0);
        }
        Due.is("3: behind", x.cell(80, 2) + x.cell(81, 2), 0);
        Due.is("3: cells", x.count(1), 82 + 154);

        CassetteTones full = Tapes.withBlocks(16);
        Due.is("3: sixteen blocks", full.count(0), 16);
        Due.is("3: the seventeenth", full.write(0, NONE, 1, 0), TOO_MANY);
        full.wipeLast();
        Due.is("3: room again", full.write(0, 14, 1, 0), 15);

        CassetteTones again = new CassetteTones();
        again.write(1, NONE, 2, 65535);
        again.fade(0, 63, 0);
        Tapes.spoilAll(again, 0, 5, 63);
        again.wipeLast();
        again.set(LOUD, 44);
        again.write(1, NONE, 1, 0);
        Due.is("3: what was there is gone", again.count(5), 0);
        Due.is("3: its volume is gone", again.cell(45, 0) + again.cell(0, 0), 88);
        Due.is("3: its bits are gone", again.load(0), 0);
        Due.is("3: its bits are gone, telling 1", again.read(0, 1, 0), 0);
    }

    private static void promise3WriteWrong() {
        CassetteTones x = Tapes.withBlocks(2);
        for (int under : new int[] {2, -1, -2, -5, -7, 16, LOW, HIGH}) {
            Due.is("3: under " + under, x.write(100, under, 0, 0), NO_SUCH);
        }
        for (int name : new int[] {-1, 100, LOW, HIGH}) {
            Due.is("3: name " + name, x.write(name, 1, 1, 0), BAD_VALUE);
        }
        for (int many : new int[] {0, 8, -1, LOW, HIGH}) {
            Due.is("3: many " + many, x.write(1, 1, many, 0), BAD_VALUE);
        }
        CassetteTones full = Tapes.withBlocks(16);
        Due.is("3: full, under ahead", full.write(0, 16, 1, 0), NO_SUCH);
        Due.is("3: full, name ahead", full.write(100, 15, 1, 0), BAD_VALUE);
        Due.is("3: full, many ahead", full.write(0, 15, 8, 0), BAD_VALUE);
        Due.is("3: full", full.write(0, 15, 7, 0), TOO_MANY);
    }

    private static void promise4WipeLast() {
        CassetteTones x = new CassetteTones();
        Due.is("4: none", x.wipeLast(), NOT_POSSIBLE);
        x.write(1, NONE, 1, 1);
        x.write(2, 0, 2, 2);
        x.spoil(46);
        Due.is("4: one left", x.wipeLast(), 1);
        Due.is("4: cells left", x.count(1), 46);
        Due.is("4: bad cells left", x.count(5), 0);
        Due.is("4: its cell", x.cell(46, 0), NO_SUCH);
        Due.is("4: it", x.of(1, 0), NO_SUCH);
        Due.is("4: none left", x.wipeLast(), 0);
        Due.is("4: no cells left", x.count(1), 0);
        Due.is("4: none again", x.wipeLast(), NOT_POSSIBLE);
    }

    private static void promise5Fade() {
        CassetteTones x = Tapes.withBlocks(2);
        Due.is("5: all", x.fade(10, 19, 50), 10);
        Due.is("5: only louder ones", x.fade(15, 24, 55), 5);
        Due.is("5: like ones are not louder", x.fade(10, 14, 50), 0);
        Due.is("5: ends", x.cell(9, 0) * 10000 + x.cell(10, 0) * 100 + x.cell(19, 0), 605050);
        Due.is("5: other end", x.cell(20, 0) * 10000 + x.cell(24, 0) * 100 + x.cell(25, 0), 555560);
        Due.is("5: one cell", x.fade(91, 91, 0), 1);
        Due.is("5: 99", x.fade(0, 91, 99), 0);
        Due.is("5: over blocks", x.fade(0, 91, 1), 91);
        for (int cell : new int[] {-1, 92, LOW, HIGH}) {
            Due.is("5: from " + cell, x.fade(cell, 0, -1), NO_SUCH);
            Due.is("5: to " + cell, x.fade(91, cell, 100), NO_SUCH);
        }
        Due.is("5: to less than from", x.fade(5, 4, 0), BAD_VALUE);
        for (int volume : new int[] {-1, 100, LOW, HIGH}) {
            Due.is("5: volume " + volume, x.fade(0, 91, volume), BAD_VALUE);
        }
        Due.is("5: no tape", new CassetteTones().fade(0, 0, 0), NO_SUCH);
    }

    private static void promise6Spoil() {
        CassetteTones x = Tapes.withBlocks(1);
        Due.is("6: bad", x.spoil(0), 1);
        Due.is("6: bad, the last one", x.spoil(45), 1);
        Due.is("6: counted", x.count(5), 2);
        Due.is("6: good again", x.spoil(45), 0);
        Due.is("6: counted again", x.count(5), 1);
        Due.is("6: the leader does not care", x.of(0, 5), 0);
        for (int cell : new int[] {-1, 46, LOW, HIGH}) {
            Due.is("6: spoil(" + cell + ")", x.spoil(cell), NO_SUCH);
        }
        Due.is("6: no tape", new CassetteTones().spoil(0), NO_SUCH);
    }

    private static void promise7Of() {
        CassetteTones x = new CassetteTones();
        x.set(SLIP, 7);
        x.write(42, NONE, 3, 1);
        x.write(7, 0, 7, 2);
        x.write(99, 1, 1, 3);
        x.write(0, NONE, 2, 4);
        x.write(5, 1, 1, 5);
        int[][] due = {
            {42, NONE, 3, 0, 82, 0, 0, 0, 0, 0},
            {7, 0, 7, 82, 154, 0, 0, 0, 1, 77},
            {99, 1, 1, 236, 46, 0, 0, 0, 2, 220},
            {0, NONE, 2, 282, 64, 0, 0, 0, 0, 263},
            {5, 1, 1, 346, 46, 0, 0, 0, 2, 322}};
        for (int block = 0; block < due.length; block++) {
            for (int what = 0; what <= 9; what++) {
                Due.is("7: of(" + block + ", " + what + ")", x.of(block, what), due[block][what]);
            }
        }
        for (int block : new int[] {-1, 5, NONE, 16, LOW, HIGH}) {
            Due.is("7: of(" + block + ", 0)", x.of(block, 0), NO_SUCH);
            Due.is("7: of(" + block + ", 99)", x.of(block, 99), NO_SUCH);
        }
        for (int what : new int[] {-1, 10, LOW, HIGH}) {
            Due.is("7: of(4, " + what + ")", x.of(4, what), BAD_VALUE);
        }
        CassetteTones deep = new CassetteTones();
        for (int block = 0; block < 16; block++) {
            deep.write(0, block == 0 ? NONE : block - 1, 7, 0);
        }
        Due.is("7: depth 15", deep.of(15, 8), 15);
        Due.is("7: the counter goes round 1000", deep.of(15, 9), (2310 - 69) % 1000);
    }

    // One byte: the telling 0 is 0..21 (leader 0..3, byte 4..12, sum 13..21), the telling 1 is 22..43.
    private static void promise7OfTellings() {
        CassetteTones x = new CassetteTones();
        x.write(0, NONE, 1, 9);
        x.fade(0, 1, 29);
        Due.is("7: two cells of a leader are enough", x.of(0, 5), 0);
        x.fade(2, 2, 30);
        Due.is("7: as loud as LEAST is loud enough", x.of(0, 5), 0);
        x.fade(3, 3, 29);
        Due.is("7: one cell of a leader is not enough", x.of(0, 5), 1);
        x.fade(4, 4, 0);
        Due.is("7: lost is ahead of broken", x.of(0, 5), 1);
        Due.is("7: telling 1 is not touched", x.of(0, 6), 0);

        CassetteTones y = new CassetteTones();
        y.write(0, NONE, 1, 9);
        y.fade(34, 34, 30);
        Due.is("7: check as loud as LEAST", y.of(0, 6), 0);
        y.fade(34, 34, 29);
        Due.is("7: check is silent", y.of(0, 6), 2);
        y.spoil(13);
        Due.is("7: byte of the sum is not whole", y.of(0, 5), 3);
        y.spoil(14);
        Due.is("7: sum is not right", y.of(0, 5), 3);
        y.spoil(4);
        Due.is("7: broken is ahead of unsure", y.of(0, 5), 2);
        y.spoil(5);
        Due.is("7: both turned by the same, byte and sum", y.of(0, 5), 0);
        y.fade(21, 21, 10);
        Due.is("7: check of the sum is silent", y.of(0, 5), 3);
        y.set(LEAST, 10);
        Due.is("7: a lesser LEAST", y.of(0, 5), 0);
        y.set(LEAST, 0);
        y.spoil(20);
        Due.is("7: a wrong check is wrong by any LEAST", y.of(0, 5), 3);

        CassetteTones sums = new CassetteTones();
        sums.write(0, NONE, 7, -1);
        Due.is("7: sums are left over by 256", sums.of(0, 5), 0);
        Due.is("7: the sum", sums.read(0, 0, 7), (7 * 255) % 256);
    }

    private static void promise7OfLoading() {
        CassetteTones x = new CassetteTones();
        x.write(0, NONE, 1, 9);
        x.spoil(4);
        Due.is("7: by the telling 1", x.of(0, 7), 1);
        x.spoil(4);
        x.spoil(26);
        Due.is("7: by the telling 0", x.of(0, 7), 0);
        x.spoil(13);
        Due.is("7: byte of one, sum of the other", x.of(0, 7), 2);
        x.spoil(35);
        Due.is("7: no sum is whole", x.of(0, 7), NONE);
        x.spoil(35);
        x.fade(22, 24, 0);
        Due.is("7: a lost one does not help", x.of(0, 7), NONE);

        CassetteTones both = new CassetteTones();
        both.write(0, NONE, 1, 9);
        both.fade(0, 43, 0);
        Due.is("7: both lost", both.of(0, 7), NONE);

        // The first telling in which a byte is whole gives it, also if it is whole but wrong.
        CassetteTones wrong = new CassetteTones();
        wrong.write(0, NONE, 1, 9);
        Tapes.spoilAll(wrong, 4, 5, 35);
        Due.is("7: whole but wrong byte ahead", wrong.of(0, 5) * 10 + wrong.of(0, 6), 33);
        Due.is("7: its sum is nowhere", wrong.of(0, 7), NONE);
        wrong.spoil(4);
        Due.is("7: it is not whole any more", wrong.of(0, 7), 2);
        wrong.spoil(35);
        wrong.spoil(36);
        wrong.spoil(37);
        Due.is("7: byte of the telling 1, sum of the telling 0", wrong.of(0, 7), 2);
        wrong.spoil(26);
        Due.is("7: no telling has the byte", wrong.of(0, 7), NONE);

        // Both sums are whole and differ: it is enough that one of them is right.
        CassetteTones sums = new CassetteTones();
        sums.write(0, NONE, 2, 0x0201);
        Tapes.spoilAll(sums, 22, 23, 35);
        Due.is("7: unsure and broken", sums.of(0, 5) * 10 + sums.of(0, 6), 32);
        Due.is("7: the sum of the telling 1", sums.of(0, 7), 2);
        Due.is("7: loaded so", sums.load(0), 0x0201);
    }

    private static void promise8Load() {
        CassetteTones x = new CassetteTones();
        x.write(0, NONE, 7, 0x8000FF017F3355L);
        Due.is("8: the telling 0", x.load(0), 0x8000FF017F3355L & 0xFFFFFFFFFFFFFFL);
        // A telling whose byte and sum are turned alike is whole, and goes ahead.
        CassetteTones y = new CassetteTones();
        y.write(0, NONE, 1, 0);
        Tapes.spoilAll(y, 4, 12, 13, 21);
        Due.is("8: telling 0 goes ahead", y.load(0), 1);
        y.spoil(4);
        Due.is("8: telling 1 then", y.load(0), 0);
        Tapes.spoilAll(y, 27, 34);
        Due.is("8: unsure and broken, not loaded", y.load(0), NOT_POSSIBLE);
        Due.is("8: of(0, 7)", y.of(0, 7), NONE);

        // Three bytes: telling 0 is 0..39, telling 1 is 40..79.
        CassetteTones z = new CassetteTones();
        z.write(0, NONE, 3, 0x030201);
        z.fade(4, 4, 0);
        z.fade(53, 53, 0);
        z.spoil(22);
        z.spoil(31);
        z.set(LEAST, 1);
        Due.is("8: bytes of both, sum of the telling 1", z.load(0), 0x030201);
        Due.is("8: by both", z.of(0, 7), 2);
        z.set(LEAST, 0);
        Due.is("8: nothing is silent at 0", z.load(0), 0x030201);
        Due.is("8: by the telling 1", z.of(0, 7), 1);
        for (int block : new int[] {-1, 1, NONE, LOW, HIGH}) {
            Due.is("8: load(" + block + ")", z.load(block), NO_SUCH);
        }
    }

    private static void promise9Read() {
        CassetteTones x = new CassetteTones();
        x.write(0, NONE, 2, 0xFFFE);
        Due.is("9: byte 0", x.read(0, 0, 0), 254);
        Due.is("9: byte 1", x.read(0, 1, 1), 255);
        Due.is("9: sum", x.read(0, 1, 2), 253);
        x.spoil(4);
        Due.is("9: wrong check", x.read(0, 0, 0), NONE);
        Due.is("9: the next one is whole", x.read(0, 0, 1), 255);
        x.spoil(12);
        Due.is("9: whole but wrong", x.read(0, 0, 0), 255);
        x.fade(43, 43, 29);
        Due.is("9: silent check", x.read(0, 1, 0), NONE);
        Due.is("9: the sum is read all the same", x.read(0, 1, 2), 253);
        x.fade(0, 2, 29);
        Due.is("9: lost", x.read(0, 0, 1), NONE);
        for (int block : new int[] {-1, 1, NONE, LOW, HIGH}) {
            Due.is("9: block " + block, x.read(block, 5, 0), NO_SUCH);
        }
        for (int place : new int[] {-1, 3, LOW, HIGH}) {
            Due.is("9: place " + place, x.read(0, 5, place), NO_SUCH);
        }
        for (int telling : new int[] {-1, 2, LOW, HIGH}) {
            Due.is("9: telling " + telling, x.read(0, telling, 2), BAD_VALUE);
        }
    }

    private static void promise10Cell() {
        CassetteTones x = new CassetteTones();
        x.set(LOUD, 77);
        x.set(SLIP, 20);
        x.write(0, NONE, 1, 1);
        x.set(LOUD, 33);
        x.write(0, NONE, 1, 255);
        int[][] due = {
            {0, 77, 0, 0, 0, 0, 0}, {4, 77, 0, 1, 0, 0, 4}, {5, 77, 0, 0, 0, 0, 4}, {12, 77, 0, 1, 0, 0, 10},
            {21, 77, 0, 1, 0, 0, 17}, {22, 77, 0, 0, 0, 1, 18}, {26, 77, 0, 1, 0, 1, 21}, {43, 77, 0, 1, 0, 1, 35},
            {44, 77, 0, 0, 0, 2, 36}, {45, 77, 0, 0, 0, 2, 36}, {46, 33, 0, 0, 1, 0, 37}, {50, 33, 0, 1, 1, 0, 40},
            {58, 33, 0, 0, 1, 0, 47}, {91, 33, 0, 0, 1, 2, 73}};
        for (int[] row : due) {
            for (int what = 0; what <= 5; what++) {
                Due.is("10: cell(" + row[0] + ", " + what + ")", x.cell(row[0], what), row[what + 1]);
            }
        }
        Tapes.spoilAll(x, 0, 4, 5, 25, 44, 45, 91);
        Due.is("10: bad", x.cell(0, 1) + x.cell(4, 1) + x.cell(91, 1), 3);
        Due.is("10: a bad cell tells the other bit", x.cell(4, 2) * 10 + x.cell(5, 2), 1);
        Due.is("10: not in leaders", x.cell(0, 2) + x.cell(25, 2), 0);
        Tapes.spoilAll(x, 46, 49, 68, 71);
        Due.is("10: not in later leaders", x.cell(46, 2) + x.cell(49, 2) + x.cell(68, 2) + x.cell(71, 2), 0);
        Due.is("10: but behind them", x.cell(50, 2) + x.cell(72, 2), 2);
        Due.is("10: not behind", x.cell(44, 2) + x.cell(45, 2) + x.cell(91, 2), 0);
        x.fade(5, 5, 0);
        Due.is("10: a silent cell tells its bit", x.cell(5, 2), 1);
        for (int cell : new int[] {-1, 92, LOW, HIGH}) {
            Due.is("10: cell(" + cell + ", 9)", x.cell(cell, 9), NO_SUCH);
        }
        for (int what : new int[] {-1, 6, LOW, HIGH}) {
            Due.is("10: cell(91, " + what + ")", x.cell(91, what), BAD_VALUE);
        }
    }

    private static void promise11Count() {
        CassetteTones x = Tapes.withBlocks(4);
        x.spoil(4);
        x.spoil(35);
        x.spoil(46 + 4);
        x.spoil(46 + 26);
        x.fade(92, 95, 29);
        x.fade(96, 96, 30);
        Tapes.putAll(x, "+1:2");
        int[] due = {4, 184, 13, 1, 4, 4, 60, 30, 3, 4, 6};
        for (int what = 0; what < due.length; what++) {
            Due.is("11: count(" + what + ")", x.count(what), due[what]);
        }
        for (int what : new int[] {-1, 11, NONE, LOW, HIGH}) {
            Due.is("11: count(" + what + ")", x.count(what), BAD_VALUE);
        }
        CassetteTones full = Tapes.withBlocks(16);
        Due.is("11: all are loaded", full.count(2), 65535);
        full.fade(0, 0, 29);
        full.fade(735, 735, 29);
        Due.is("11: the first and the last cell", full.count(4), 2);
    }

    private static void promise12Reached() {
        CassetteTones x = new CassetteTones();
        int[] unders = {NONE, 0, 1, NONE, 3, 0, 4};
        for (int block = 0; block < unders.length; block++) {
            x.write(block, unders[block], 1, block);
        }
        Due.is("12: all", x.reached(), 127);
        x.fade(46, 91, 0);
        Due.is("12: without 1 and what is under it", x.reached(), 127 - 2 - 4);
        x.fade(3 * 46, 4 * 46 - 1, 0);
        Due.is("12: without 3, 4 and 6", x.reached(), 1 + 32);
        Due.is("12: but they are loaded", x.count(2), 127 - 2 - 8);
        x.set(LEAST, 0);
        Due.is("12: all again", x.reached(), 127);
        Due.is("12: none", new CassetteTones().reached(), 0);
    }

    private static void promise13Near() {
        CassetteTones x = new CassetteTones();
        x.set(SLIP, 0);
        for (int block = 0; block < 16; block++) {
            x.write(0, NONE, 7, 0);
        }
        // The blocks begin at 154 * block: 0 154 308 462 616 770 924 78 232 386 540 694 848 2 156 310.
        int[] from0 = {0, 13, 6, 7, 12, 1, 14, 5, 8, 11, 2, 15, 4, 9, 10, 3};
        for (int rank = 0; rank < 16; rank++) {
            Due.is("13: near(0, " + rank + ")", x.near(0, rank), from0[rank]);
        }
        Due.is("13: round 1000", x.near(999, 0), 0);
        Due.is("13: of like ones the lower number", x.near(1, 0) * 100 + x.near(1, 1), 13);
        Due.is("13: of like ones the lower number, elsewhere", x.near(309, 0) * 100 + x.near(309, 1), 215);
        Due.is("13: 500 off", x.near(424, 15), 6);
        for (int rank : new int[] {-1, 16, LOW, HIGH}) {
            Due.is("13: rank " + rank, x.near(1000, rank), NO_SUCH);
        }
        for (int counter : new int[] {-1, 1000, LOW, HIGH}) {
            Due.is("13: counter " + counter, x.near(counter, 15), BAD_VALUE);
        }
        x.set(SLIP, 20);
        Due.is("13: it slips", x.near(370, 0), 3);
        Due.is("13: no block", new CassetteTones().near(-1, 0), NO_SUCH);
    }

    private static void promise14MostLeast() {
        CassetteTones x = new CassetteTones();
        x.set(LOUD, 99);
        x.write(0, NONE, 1, 9);
        Due.is("14: 99", x.mostLeast(0), 99);
        x.fade(0, 43, 50);
        x.fade(5, 5, 20);
        Due.is("14: by the telling 1", x.mostLeast(0), 50);
        x.fade(27, 27, 10);
        Due.is("14: the byte is silent above 20", x.mostLeast(0), 20);
        x.spoil(6);
        Due.is("14: by the telling 1 at 10", x.mostLeast(0), 10);
        x.spoil(28);
        Due.is("14: none", x.mostLeast(0), NONE);
        x.set(LEAST, 0);
        Due.is("14: LEAST does not matter", x.mostLeast(0), NONE);

        CassetteTones leader = new CassetteTones();
        leader.write(0, NONE, 1, 9);
        leader.fade(22, 43, 0);
        leader.fade(0, 0, 12);
        leader.fade(1, 2, 7);
        Due.is("14: the second loudest cell of the leader", leader.mostLeast(0), 12);
        leader.fade(3, 3, 5);
        Due.is("14: the second loudest again", leader.mostLeast(0), 7);

        CassetteTones silent = new CassetteTones();
        silent.write(0, NONE, 7, -1);
        silent.fade(0, 153, 0);
        Due.is("14: at 0 nothing is silent", silent.mostLeast(0), 0);
        Due.is("14: but it is not loaded now", silent.of(0, 7), NONE);

        // The byte of the telling 0 is whole but wrong, and silent above 40: then the other one is taken.
        CassetteTones hidden = new CassetteTones();
        hidden.write(0, NONE, 1, 9);
        Tapes.spoilAll(hidden, 4, 5, 35);
        hidden.fade(4, 4, 40);
        Due.is("14: not loaded at 30", hidden.load(0), NOT_POSSIBLE);
        Due.is("14: but above 40", hidden.mostLeast(0), 60);
        Due.is("14: nothing changes", hidden.count(7), 30);
        for (int block : new int[] {-1, 1, NONE, LOW, HIGH}) {
            Due.is("14: mostLeast(" + block + ")", hidden.mostLeast(block), NO_SUCH);
        }
    }

    private static void promise15Weak() {
        for (int many = 1; many <= 7; many++) {
            CassetteTones x = new CassetteTones();
            x.write(0, NONE, many, 0x123456789ABCDEFL);
            for (int telling = 0; telling <= 1; telling++) {
                int from = telling * x.of(0, 4) / 2 - telling;
                int turned = 0;
                for (int cell = from; cell < from + 4 + 9 * (many + 1); cell++) {
                    x.spoil(cell);
                    turned += x.of(0, 5 + telling) == 0 ? 0 : 1;
                    x.spoil(cell);
                }
                Due.is("15: tried on " + many, x.weak(0, telling), turned);
                Due.is("15: counted on " + many, turned, 9 * (many + 1));
            }
            Due.is("15: nothing changes", x.count(5), 0);
        }
        CassetteTones y = Tapes.withBlocks(1);
        y.spoil(4);
        Due.is("15: not whole", y.weak(0, 0), NOT_POSSIBLE);
        Due.is("15: the other is", y.weak(0, 1), 18);
        y.fade(22, 24, 0);
        Due.is("15: lost", y.weak(0, 1), NOT_POSSIBLE);
        for (int block : new int[] {-1, 1, NONE, LOW, HIGH}) {
            Due.is("15: block " + block, y.weak(block, 2), NO_SUCH);
        }
        for (int telling : new int[] {-1, 2, LOW, HIGH}) {
            Due.is("15: telling " + telling, y.weak(0, telling), BAD_VALUE);
        }
        y.spoil(4);
        y.spoil(0);
        Due.is("15: a bad leader does not matter", y.weak(0, 0), 18);
    }

    private static void promise16Widest() {
        CassetteTones x = new CassetteTones();
        Due.is("16: no block", x.widest(0), NONE);
        Due.is("16: wrong what ahead", x.widest(2), BAD_VALUE);
        int[] unders = {NONE, 0, NONE, 2, 3, 2, NONE, 6, 7, 8};
        for (int block = 0; block < unders.length; block++) {
            x.write(block, unders[block], 1, block);
        }
        Due.is("16: of several the lowest", x.widest(0), 2);
        Due.is("16: how many", x.widest(1), 3);
        x.fade(5 * 46, 6 * 46 - 1, 0);
        Due.is("16: 6 has more then", x.widest(0), 6);
        Due.is("16: 3 under it", x.widest(1), 3);
        x.fade(7 * 46, 8 * 46 - 1, 0);
        Due.is("16: 2 again", x.widest(0) * 10 + x.widest(1), 22);
        x.fade(2 * 46, 3 * 46 - 1, 0);
        Due.is("16: 0 then", x.widest(0) * 10 + x.widest(1), 1);
        x.fade(1 * 46, 2 * 46 - 1, 0);
        Due.is("16: none is under any", x.widest(0) * 10 + x.widest(1), 0);
        x.fade(0, 45, 0);
        Due.is("16: 6 alone", x.widest(0) * 10 + x.widest(1), 60);
        x.fade(0, 459, 0);
        Due.is("16: none, the block", x.widest(0), NONE);
        Due.is("16: none, how many", x.widest(1), NONE);
        for (int what : new int[] {-1, 2, LOW, HIGH}) {
            Due.is("16: widest(" + what + ")", x.widest(what), BAD_VALUE);
        }
    }

    private static void promise17Put() {
        CassetteTones x = new CassetteTones();
        Due.is("17: one", x.put('!'), 1);
        Due.is("17: 126", x.put('~'), 2);
        Due.is("17: eight", x.put(Tapes.given("~~~~~~~~")), 10);
        Due.is("17: count(9)", x.count(9), 10);
        Due.is("17: no change", x.count(10), 0);
        long[] wrong = {0, 32, 127, 128, 255, -1, 0x2100, 0x210021, 0x2100000000000000L, 0x2000000000000021L,
            0x2121212121212120L, 0x8021212121212121L, 0x7F21212121212121L, 0x0121, 0x2100000021L, Long.MIN_VALUE,
            0x2121210021212121L};
        for (long characters : wrong) {
            Due.is("17: put(" + characters + ")", x.put(characters), BAD_VALUE);
        }
        Due.is("17: the length stays", x.count(9), 10);
        CassetteTones y = new CassetteTones();
        for (int part = 0; part < 9; part++) {
            y.put(Tapes.given("x1;x2;x3"));
        }
        Due.is("17: 72", y.count(9), 72);
        Due.is("17: 79", y.put(Tapes.given("1234567")), 79);
        Due.is("17: too many by one", y.put(Tapes.given("12")), TOO_MANY);
        Due.is("17: 80", y.put('1'), 80);
        Due.is("17: full", y.put('1'), TOO_MANY);
        Due.is("17: wrong is ahead of full", y.put(32), BAD_VALUE);
        Due.is("17: none is ahead of full", y.put(0), BAD_VALUE);
        // The order of the characters shows in the fault.
        CassetteTones z = new CassetteTones();
        z.put(Tapes.given("x1;x"));
        z.put(Tapes.given("2;f3-"));
        Due.is("17: in this order", z.fault(), 9);
    }

    private static void promise18Wipe() {
        CassetteTones x = Tapes.withPad("+1:2;x3");
        Due.is("18: seven", x.wipe(), 7);
        Due.is("18: empty", x.count(9), 0);
        Due.is("18: nothing", x.wipe(), 0);
        Due.is("18: no change", x.count(10), 0);
        x.put('x');
        Due.is("18: what was wiped is gone", x.fault(), 1);
    }

    private static void promise19Fault() {
        Object[][] texts = {
            {"", 0}, {"x", 1}, {"x5", NONE}, {"x5;", 3}, {"x5;x6", NONE}, {"x5;;x6", 3}, {";", 0}, {"x5x6", 2},
            {"5", 0}, {"X5", 0}, {"x-5", 1}, {"x5,6", 2}, {"x5:6", 2}, {"x5^6", 2}, {"x5=6", 2},
            {"+", 1}, {"+1", 2}, {"+1:", 3}, {"+1:2", NONE}, {"+1:2,", 5}, {"+1:2,3", NONE}, {"+1:2,,3", 5},
            {"+1^", 3}, {"+1^2", 4}, {"+1^2:", 5}, {"+1^2:3", NONE}, {"+1^2^3:4", 4}, {"+1^:4", 3}, {"+1:2^3", 4},
            {"+:1", 1}, {"+^1:1", 1}, {"+1;2", 2}, {"+1,2", 2}, {"+1:;", 3}, {"+1:2:3", 4}, {"+1:2-", 4},
            {"f", 1}, {"f1", 2}, {"f1-", 3}, {"f1-2", 4}, {"f1-2=", 5}, {"f1-2=3", NONE}, {"f1=2", 2}, {"f1-2-3", 4},
            {"f1-2=3,4", 6}, {"f-2=3", 1}, {"f1-=3", 3}, {"f1-2=;", 5}, {"f1;", 2}, {"f1-2;", 4},
            {"+1:1,2,3,4,5,6,7,8,9", NONE}, {"+1:256", NONE}, {"+9999^9999:9999", NONE}, {"f9999-9998=9997", NONE},
            {"x9999", NONE}, {"+1:2;f3-4=5;x6", NONE}, {"+1:2;f3-4=5;x6;y", 15}, {"+1:2;f3-4=5+", 11},
            {"x5!", 2}, {"~", 0}, {"x5;x6;x7;+1:2,3;x", 17}};
        for (Object[] text : texts) {
            CassetteTones x = Tapes.withPad((String) text[0]);
            Due.is("19: fault of " + text[0], x.fault(), (Integer) text[1]);
            Due.is("19: the pad stays, " + text[0], x.count(9), ((String) text[0]).length());
        }
    }

    private static void promise19FaultOfNumbers() {
        Object[][] texts = {
            {"x0", NONE}, {"x00", 2}, {"x01", 2}, {"x10", NONE}, {"x1000", NONE}, {"x9999", NONE}, {"x10000", 5},
            {"x99999", 5}, {"x1a", 2}, {"+00:1", 2}, {"+12345:1", 5}, {"+1^01:1", 4}, {"+1^12345:1", 7},
            {"+1:01", 4}, {"+1:0,00", 6}, {"+1:0,12345", 9}, {"f00-1=1", 2}, {"f0-01=1", 4}, {"f0-1=01", 6},
            {"f12345-1=1", 5}, {"f1-12345=1", 7}, {"f1-1=12345", 9}, {"x/", 1}, {"x:", 1}};
        for (Object[] text : texts) {
            Due.is("19: fault of " + text[0], Tapes.withPad((String) text[0]).fault(), (Integer) text[1]);
        }
    }

    private static void promise20CarryOut() {
        CassetteTones x = Tapes.withPad("+12:255,0,7;+34^0:1,2,3,4,5,6,7;f0-9=10;x82;x82;x83");
        Due.is("20: all of them", x.carryOut(), 6);
        Due.is("20: the pad is empty", x.count(9), 0);
        Due.is("20: one change", x.count(10), 1);
        Due.is("20: names", x.of(0, 0) * 100 + x.of(1, 0), 1234);
        Due.is("20: under none", x.of(0, 1), NONE);
        Due.is("20: under the first", x.of(1, 1), 0);
        Due.is("20: bytes", x.of(0, 2) * 10 + x.of(1, 2), 37);
        Due.is("20: bytes as they are", x.load(1), 0x07060504030201L);
        Due.is("20: bytes of the other", x.load(0), 0x0700FF);
        Due.is("20: faded", x.cell(9, 0) * 100 + x.cell(10, 0), 1060);
        Due.is("20: spoilt", x.cell(82, 1) * 10 + x.cell(83, 1), 1);
        Due.is("20: undone at once", x.undo(), 0);
        Due.is("20: nothing there", x.count(0), 0);
        Due.is("20: the pad does not come back", x.count(9), 0);
        CassetteTones volumes = Tapes.withPad("+1:0");
        volumes.set(LOUD, 42);
        volumes.carryOut();
        Due.is("20: as loud as LOUD is", volumes.cell(0, 0), 42);
        Due.is("20: a byte that is 0", volumes.load(0), 0);
        Tapes.putAll(volumes, "f0-0=0;x0;+0^0:0");
        Due.is("20: noughts", volumes.carryOut(), 3);
        Due.is("20: faded by noughts", volumes.cell(0, 0) * 10 + volumes.cell(0, 1), 1);
    }

    private static void promise20CarryOutWrong() {
        CassetteTones fault = Tapes.withPad("+1:2;");
        Due.is("20: a fault", fault.carryOut(), BAD_TEXT);
        Due.is("20: the pad stays", fault.count(9), 5);
        Due.is("20: nothing was done", fault.count(0) * 10 + fault.count(10), 0);
        Due.is("20: an empty pad", new CassetteTones().carryOut(), BAD_TEXT);

        String[] stops = {"x46", "f0-46=1", "f46-46=1", "f2-1=1", "f0-1=100", "+100:1", "+1^1:1", "+1:256",
            "+1:1,2,3,4,5,6,7,8", "+1:1,2,3,4,5,6,256", "+1:9999", "+1^9999:1"};
        for (String stop : stops) {
            CassetteTones x = Tapes.withPad("+1:2;x4;" + stop + ";x5;+1:1");
            Due.is("20: up to " + stop, x.carryOut(), 2);
            Due.is("20: what was done stays, " + stop, x.count(5) * 10 + x.count(0), 11);
            Due.is("20: the pad is empty, " + stop, x.count(9), 0);
            Due.is("20: one change, " + stop, x.count(10), 1);
            CassetteTones alone = Tapes.withPad(stop + ";+1:2");
            Due.is("20: none is carried out, " + stop, alone.carryOut(), 0);
            Due.is("20: a change all the same, " + stop, alone.count(10) * 10 + alone.count(0), 10);
        }
        CassetteTones full = Tapes.withBlocks(15);
        Tapes.putAll(full, "+1^14:1;+2:2;x0");
        Due.is("20: too many blocks", full.carryOut(), 1);
        Due.is("20: sixteen", full.count(0), 16);
    }

    private static void promise21Undo() {
        CassetteTones x = new CassetteTones();
        writeSome(x, 7);
        Due.is("21: six are kept", x.count(10), 6);
        for (int change = 6; change >= 1; change--) {
            Due.is("21: undo " + change, x.undo(), change - 1);
            Due.is("21: blocks", x.count(0), change);
            int kept = change;
            Due.holds("21: settings and tape as before", Look.state(y -> {
                writeSome(y, 7);
                for (int back = kept; back < 7; back++) {
                    y.undo();
                }
            }).equals(Look.state(y -> writeSome(y, kept))));
        }
        Due.is("21: none is left", x.undo(), NOT_POSSIBLE);
        Due.is("21: the oldest was dropped", x.count(0), 1);

        CassetteTones many = new CassetteTones();
        for (int change = 0; change < 40; change++) {
            many.set(LEAST, change);
            many.set(LEAST, change + 50);
            Due.is("21: round and round", many.undo() * 100 + many.count(7), Math.min(change + 1, 5) * 100 + change);
        }
        for (int change = 39; change >= 35; change--) {
            Due.is("21: back to " + change, many.undo() * 100 + many.count(7), (change - 35) * 100 + change - 1);
        }
        Due.is("21: no more", many.undo(), NOT_POSSIBLE);

        CassetteTones all = Tapes.withBlocks(2);
        all.spoil(4);
        all.fade(5, 9, 3);
        all.set(LEAST, 1);
        Due.is("21: LEAST", all.undo() * 100 + all.count(7), 430);
        Due.is("21: fade", all.undo() * 100 + all.cell(5, 0), 360);
        Due.is("21: spoil", all.undo() * 100 + all.cell(4, 1), 200);
        all.wipeLast();
        all.write(9, 0, 3, 5);
        all.undo();
        Due.is("21: wipeLast", all.undo() * 1000 + all.of(1, 0) * 100 + all.of(1, 4), 2146);
        all.put('x');
        all.save(0);
        all.undo();
        Due.is("21: the pad stays", all.count(9), 1);
        Due.is("21: the slot stays", all.restore(0), 2);
        Due.is("21: restore can be undone", all.undo() * 10 + all.count(0), 11);
    }

    private static void writeSome(CassetteTones x, int blocks) {
        for (int block = 0; block < blocks; block++) {
            x.write(block, NONE, 1 + block % 3, block * 1000L);
        }
    }

    private static void promise21WhatIsRecorded() {
        CassetteTones x = new CassetteTones();
        x.set(LOUD, 60);
        Due.is("21: also if nothing is different", x.count(10), 1);
        x.write(0, NONE, 1, 0);
        x.fade(0, 1, 99);
        x.save(1);
        x.put('x');
        x.wipe();
        x.mostLeast(0);
        x.weak(0, 0);
        x.widest(0);
        Due.is("21: only what is a change", x.count(10), 3);
        x.set(LOUD, 100);
        x.write(0, 5, 1, 0);
        x.fade(5, 4, 0);
        x.spoil(-1);
        x.restore(0);
        x.restore(2);
        x.carryOut();
        Due.is("21: errors record nothing", x.count(10), 3);
        x.restore(1);
        Due.is("21: restore records", x.count(10), 4);
        x.undo();
        Due.is("21: undo records nothing", x.count(10), 3);
        CassetteTones empty = new CassetteTones();
        empty.wipeLast();
        Due.is("21: wipeLast of nothing records nothing", empty.undo(), NOT_POSSIBLE);
    }

    private static void promise22Save() {
        CassetteTones x = Tapes.withBlocks(3);
        x.spoil(7);
        x.put('x');
        Due.is("22: save(0)", x.save(0), 3);
        Due.is("22: no change", x.count(10), 4);
        x.wipeLast();
        x.set(LEAST, 2);
        Due.is("22: save(1)", x.save(1), 2);
        x.spoil(7);
        x.put('5');
        Due.is("22: slot 0 is not touched", x.restore(0), 3);
        Due.is("22: with its settings and cells", x.count(7) * 10 + x.cell(7, 1), 301);
        Due.is("22: without the pad", x.count(9), 2);
        Due.is("22: slot 1", x.restore(1) * 10 + x.count(7), 22);
        x.wipeLast();
        Due.is("22: overwritten", x.save(0), 1);
        x.wipeLast();
        Due.is("22: the later one", x.restore(0), 1);
        for (int slot : new int[] {-1, 2, LOW, HIGH}) {
            Due.is("22: save(" + slot + ")", x.save(slot), BAD_VALUE);
        }
        Due.is("22: an empty tape", new CassetteTones().save(0), 0);
    }

    private static void promise23Restore() {
        CassetteTones x = Tapes.withBlocks(2);
        for (int slot : new int[] {-1, 2, LOW, HIGH}) {
            Due.is("23: restore(" + slot + ")", x.restore(slot), BAD_VALUE);
        }
        Due.is("23: nothing saved", x.restore(0), NOT_POSSIBLE);
        x.save(1);
        Due.is("23: the other one", x.restore(0), NOT_POSSIBLE);
        Due.is("23: no change yet", x.count(10), 2);
        x.spoil(0);
        x.fade(0, 91, 1);
        Due.is("23: restored", x.restore(1), 2);
        Due.is("23: a change", x.count(10), 5);
        Due.is("23: cells as they were", x.cell(0, 0) * 10 + x.cell(0, 1), 600);
        x.wipeLast();
        x.wipeLast();
        Due.is("23: the slot keeps it", x.restore(1), 2);
        Due.is("23: what is changed then is not in the slot", x.spoil(5), 1);
        Due.is("23: once more", x.restore(1) * 10 + x.count(5), 20);
        CassetteTones empty = new CassetteTones();
        empty.save(0);
        empty.write(0, NONE, 1, 0);
        Due.is("23: an empty tape was saved", empty.restore(0), 0);
        Due.is("23: its cells are gone", empty.count(1), 0);
    }
}
