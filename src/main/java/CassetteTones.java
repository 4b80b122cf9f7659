/** A cassette on which each block is told twice as tones, its reader, its counter, and the pad with orders for it. */
public final class CassetteTones {
    public static final int NO_SUCH = -1, BAD_VALUE = -2, BAD_TEXT = -3, TOO_MANY = -4, NOT_POSSIBLE = -5, NONE = -6;
    public static final int LOUD = 0, LEAST = 1, SLIP = 2;

    private static final int FINE = 0;

    private static final int SETTINGS = 3;
    private static final int MOST_SLIP = 20;
    private static final int MOST_VOLUME = 99;
    private static final int MOST_NAME = 99;

    private static final int MOST_BLOCKS = 16;
    private static final int MOST_BYTES = 7;
    private static final int TELLINGS = 2;
    private static final int LEADER_CELLS = 4;
    private static final int BYTE_BITS = 8;
    private static final int BYTE_CELLS = 9;
    private static final int CELLS_BEHIND = 2;
    private static final int BYTE_MASK = 255;
    private static final int MOST_CELLS =
        MOST_BLOCKS * (TELLINGS * (LEADER_CELLS + (MOST_BYTES + 1) * BYTE_CELLS) + CELLS_BEHIND);

    private static final int COUNTER_ROUND = 1000;

    private static final int WHOLE = 0, LOST = 1, BROKEN = 2, UNSURE = 3;
    private static final int BY_FIRST = 0, BY_SECOND = 1, BY_BOTH = 2;

    private static final int MOST_CHARACTERS = 80;
    private static final int FIRST_CHARACTER = 33;
    private static final int LAST_CHARACTER = 126;
    private static final int MOST_GIVEN = 8;
    // Four digits are at most 9999, the greatest number of a text; a fifth always goes above it.
    private static final int MOST_DIGITS = 4;

    private static final int MOST_STATES = 6;

    private final Tape tape;
    private final BlockReader reader;
    private final Pad pad;
    private final History history;
    private final Slot firstSlot;
    private final Slot secondSlot;
    private final int[] below;

    public CassetteTones() {
        tape = new Tape();
        reader = new BlockReader();
        pad = new Pad();
        history = new History();
        firstSlot = new Slot();
        secondSlot = new Slot();
        below = new int[MOST_BLOCKS];
    }

    // ---- changes

    public int set(int setting, int value) {
        if (setting < 0 || setting >= SETTINGS || value < 0 || value > mostOf(setting)) {
            return BAD_VALUE;
        }
        history.keep(tape);
        int previous = tape.setting(setting);
        setValue(tape.settings, setting, value);
        return previous;
    }

    public int write(int name, int under, int many, long bytes) {
        int error = tape.errorOfBlock(name, under, many);
        if (error != FINE) {
            return error;
        }
        history.keep(tape);
        return tape.appendBlock(name, under, many, bytes);
    }

    public int wipeLast() {
        if (tape.blocks <= 0) {
            return NOT_POSSIBLE;
        }
        history.keep(tape);
        tape.blocks--;
        return tape.blocks;
    }

    public int fade(int from, int to, int volume) {
        int error = tape.errorOfFading(from, to, volume);
        if (error != FINE) {
            return error;
        }
        history.keep(tape);
        return tape.fadeCells(from, to, volume);
    }

    public int spoil(int cell) {
        if (!tape.hasCell(cell)) {
            return NO_SUCH;
        }
        history.keep(tape);
        return tape.spoilCell(cell);
    }

    // ---- what there is

    public int of(int block, int what) {
        if (!tape.hasBlock(block)) {
            return NO_SUCH;
        }
        switch (what) {
            case 0:
                return valueAt(tape.names, block);
            case 1:
                return valueAt(tape.unders, block);
            case 2:
                return valueAt(tape.manys, block);
            case 3:
                return tape.firstOf(block);
            case 4:
                return tape.firstOf(block + 1) - tape.firstOf(block);
            case 5:
                return stateOfTelling(block, 0);
            case 6:
                return stateOfTelling(block, 1);
            case 7:
                return wayOfLoading(block);
            case 8:
                return tape.depthOf(block);
            case 9:
                return tape.counterOf(tape.firstOf(block));
            default:
                return BAD_VALUE;
        }
    }

    public long load(int block) {
        if (!tape.hasBlock(block)) {
            return NO_SUCH;
        }
        int way = wayOfLoading(block);
        if (way == NONE) {
            return NOT_POSSIBLE;
        }
        return reader.bytesBy(way, tape.setting(LEAST));
    }

    public int read(int block, int telling, int place) {
        if (!tape.hasBlock(block) || place < 0 || place > valueAt(tape.manys, block)) {
            return NO_SUCH;
        }
        if (telling < 0 || telling >= TELLINGS) {
            return BAD_VALUE;
        }
        reader.readBlock(tape, block);
        Telling told = reader.telling(telling);
        int least = tape.setting(LEAST);
        if (told.isLost(least) || !told.isByteWhole(place, least)) {
            return NONE;
        }
        return valueAt(told.values, place);
    }

    public int cell(int cell, int what) {
        if (!tape.hasCell(cell)) {
            return NO_SUCH;
        }
        switch (what) {
            case 0:
                return valueAt(tape.volumes, cell);
            case 1:
                return valueAt(tape.bad, cell);
            case 2:
                return tape.bitAt(cell);
            case 3:
                return tape.blockAt(cell);
            case 4:
                return tape.partAt(cell);
            case 5:
                return tape.counterOf(cell);
            default:
                return BAD_VALUE;
        }
    }

    public int count(int what) {
        switch (what) {
            case 0:
                return tape.blocks;
            case 1:
                return tape.cells();
            case 2:
                return loadedBlocks(false);
            case 3:
                return loadedBlocks(true);
            case 4:
                return tape.silentCells();
            case 5:
                return tape.badCells();
            case 6:
                return tape.setting(LOUD);
            case 7:
                return tape.setting(LEAST);
            case 8:
                return tape.setting(SLIP);
            case 9:
                return pad.length;
            case 10:
                return history.size;
            default:
                return BAD_VALUE;
        }
    }

    public int reached() {
        int set = 0;
        // A block is always under an earlier one, so one walk forward settles them all.
        for (int block = 0; block < tape.blocks; block++) {
            int under = valueAt(tape.unders, block);
            if ((under == NONE || holds(set, under)) && wayOfLoading(block) != NONE) {
                set |= 1 << block;
            }
        }
        return set;
    }

    // ---- what if; nothing changes

    public int near(int counter, int rank) {
        if (rank < 0 || rank >= tape.blocks) {
            return NO_SUCH;
        }
        if (counter < 0 || counter >= COUNTER_ROUND) {
            return BAD_VALUE;
        }
        for (int block = 0; block < tape.blocks; block++) {
            if (tape.nearerBlocks(block, counter) == rank) {
                return block;
            }
        }
        return NO_SUCH;
    }

    public int mostLeast(int block) {
        if (!tape.hasBlock(block)) {
            return NO_SUCH;
        }
        reader.readBlock(tape, block);
        // A byte that is whole but wrong can be silenced by a greater LEAST, and the block
        // be loaded then: so each LEAST is tried by itself.
        for (int least = MOST_VOLUME; least >= 0; least--) {
            if (reader.wayBy(least) != NONE) {
                return least;
            }
        }
        return NONE;
    }

    public int weak(int block, int telling) {
        if (!tape.hasBlock(block)) {
            return NO_SUCH;
        }
        if (telling < 0 || telling >= TELLINGS) {
            return BAD_VALUE;
        }
        if (stateOfTelling(block, telling) != WHOLE) {
            return NOT_POSSIBLE;
        }
        // Any one bit that turns makes the check of its byte wrong; bits of the leader are never read.
        return tape.tellingCells(block) - LEADER_CELLS;
    }

    public int widest(int what) {
        if (what != 0 && what != 1) {
            return BAD_VALUE;
        }
        int reachable = reached();
        if (reachable == 0) {
            return NONE;
        }
        countBelow(reachable);
        int best = NONE;
        for (int block = 0; block < tape.blocks; block++) {
            if (holds(reachable, block) && (best == NONE || valueAt(below, block) > valueAt(below, best))) {
                best = block;
            }
        }
        return what == 0 ? best : valueAt(below, best);
    }

    // ---- texts

    public int put(long characters) {
        int many = pad.charactersIn(characters);
        if (many <= 0) {
            return BAD_VALUE;
        }
        if (pad.length + many > MOST_CHARACTERS) {
            return TOO_MANY;
        }
        pad.append(characters, many);
        return pad.length;
    }

    public int wipe() {
        int previous = pad.length;
        pad.length = 0;
        return previous;
    }

    public int fault() {
        return pad.findFault();
    }

    public int carryOut() {
        if (pad.findFault() != NONE) {
            return BAD_TEXT;
        }
        history.keep(tape);
        int done = 0;
        pad.at = 0;
        for (int orders = 0; orders < MOST_CHARACTERS; orders++) {
            if (!pad.takeOrder() || carryOrderOut() < 0) {
                break;
            }
            done++;
            if (!pad.takeSign(';')) {
                break;
            }
        }
        pad.length = 0;
        return done;
    }

    // ---- undo, saving

    public int undo() {
        if (history.size <= 0) {
            return NOT_POSSIBLE;
        }
        history.takeBack(tape);
        return history.size;
    }

    public int save(int slot) {
        Slot chosen = slotOf(slot);
        if (chosen == null) {
            return BAD_VALUE;
        }
        chosen.saved.copyFrom(tape);
        chosen.filled = true;
        return tape.blocks;
    }

    public int restore(int slot) {
        Slot chosen = slotOf(slot);
        if (chosen == null) {
            return BAD_VALUE;
        }
        if (!chosen.filled) {
            return NOT_POSSIBLE;
        }
        history.keep(tape);
        tape.copyFrom(chosen.saved);
        return tape.blocks;
    }

    /** What stands at a place of a row; 0 beside it. */
    private static int valueAt(int[] row, int place) {
        return place >= 0 && place < row.length ? row[place] : 0;
    }

    private static void setValue(int[] row, int place, int value) {
        if (place >= 0 && place < row.length) {
            row[place] = value;
        }
    }

    private Slot slotOf(int slot) {
        if (slot == 0) {
            return firstSlot;
        }
        return slot == 1 ? secondSlot : null;
    }

    private static int mostOf(int setting) {
        return setting == SLIP ? MOST_SLIP : MOST_VOLUME;
    }

    private static boolean holds(int set, int block) {
        return (set >>> block & 1) == 1;
    }

    private int stateOfTelling(int block, int telling) {
        reader.readBlock(tape, block);
        return reader.telling(telling).stateBy(tape.setting(LEAST));
    }

    private int wayOfLoading(int block) {
        reader.readBlock(tape, block);
        return reader.wayBy(tape.setting(LEAST));
    }

    private int loadedBlocks(boolean byBothAlone) {
        int set = 0;
        for (int block = 0; block < tape.blocks; block++) {
            int way = wayOfLoading(block);
            if (way == BY_BOTH || (way != NONE && !byBothAlone)) {
                set |= 1 << block;
            }
        }
        return set;
    }

    private void countBelow(int reachable) {
        for (int block = 0; block < MOST_BLOCKS; block++) {
            setValue(below, block, 0);
        }
        // Backward, so that a block's own number is complete when it is handed on.
        for (int block = tape.blocks - 1; block >= 0; block--) {
            int under = valueAt(tape.unders, block);
            if (holds(reachable, block) && under != NONE) {
                setValue(below, under, valueAt(below, under) + valueAt(below, block) + 1);
            }
        }
    }

    private int carryOrderOut() {
        if (pad.kind == '+') {
            return carryBlockOut();
        }
        if (pad.kind == 'f') {
            return carryFadingOut();
        }
        return tape.hasCell(pad.number) ? tape.spoilCell(pad.number) : NO_SUCH;
    }

    private int carryFadingOut() {
        int error = tape.errorOfFading(pad.number, pad.to, pad.volume);
        if (error != FINE) {
            return error;
        }
        return tape.fadeCells(pad.number, pad.to, pad.volume);
    }

    private int carryBlockOut() {
        int error = tape.errorOfBlock(pad.number, pad.under, pad.many);
        if (error != FINE) {
            return error;
        }
        if (pad.byteTooGreat) {
            return BAD_VALUE;
        }
        return tape.appendBlock(pad.number, pad.under, pad.many, pad.bytes);
    }

    /** All that undo and the slots bring back: the settings, the blocks and the cells. */
    private static final class Tape {
        private final int[] settings = {60, 30, 3};
        private int blocks;
        private final int[] names = new int[MOST_BLOCKS];
        private final int[] unders = new int[MOST_BLOCKS];
        private final int[] manys = new int[MOST_BLOCKS];
        // One more than there are blocks: behind the last block it holds the length of the tape.
        private final int[] firsts = new int[MOST_BLOCKS + 1];
        private final int[] volumes = new int[MOST_CELLS];
        private final int[] bad = new int[MOST_CELLS];
        // Bits as they were written; of no meaning in leaders and behind tellings, which tell none.
        private final int[] written = new int[MOST_CELLS];

        private void copyFrom(Tape other) {
            blocks = other.blocks;
            System.arraycopy(other.settings, 0, settings, 0, SETTINGS);
            System.arraycopy(other.names, 0, names, 0, MOST_BLOCKS);
            System.arraycopy(other.unders, 0, unders, 0, MOST_BLOCKS);
            System.arraycopy(other.manys, 0, manys, 0, MOST_BLOCKS);
            System.arraycopy(other.firsts, 0, firsts, 0, MOST_BLOCKS + 1);
            int used = Math.max(0, Math.min(cells(), MOST_CELLS));
            System.arraycopy(other.volumes, 0, volumes, 0, used);
            System.arraycopy(other.bad, 0, bad, 0, used);
            System.arraycopy(other.written, 0, written, 0, used);
        }

        private boolean hasBlock(int block) {
            return block >= 0 && block < blocks;
        }

        private int setting(int setting) {
            return valueAt(settings, setting);
        }

        private int firstOf(int block) {
            return valueAt(firsts, block);
        }

        private int cells() {
            return valueAt(firsts, blocks);
        }

        private boolean hasCell(int cell) {
            return cell >= 0 && cell < cells();
        }

        private int tellingCells(int block) {
            return LEADER_CELLS + (valueAt(manys, block) + 1) * BYTE_CELLS;
        }

        private int errorOfBlock(int name, int under, int many) {
            if (under != NONE && !hasBlock(under)) {
                return NO_SUCH;
            }
            if (name < 0 || name > MOST_NAME || many < 1 || many > MOST_BYTES) {
                return BAD_VALUE;
            }
            return blocks >= MOST_BLOCKS ? TOO_MANY : FINE;
        }

        private int appendBlock(int name, int under, int many, long bytes) {
            int block = blocks;
            setValue(names, block, name);
            setValue(unders, block, under);
            setValue(manys, block, many);
            int first = firstOf(block);
            int length = tellingCells(block);
            int end = first + TELLINGS * length + CELLS_BEHIND;
            for (int cell = first; cell < end; cell++) {
                setValue(volumes, cell, setting(LOUD));
                setValue(bad, cell, 0);
            }
            for (int telling = 0; telling < TELLINGS; telling++) {
                writeTelling(first + telling * length + LEADER_CELLS, many, bytes);
            }
            setValue(firsts, block + 1, end);
            blocks++;
            return block;
        }

        private void writeTelling(int from, int many, long bytes) {
            int sum = 0;
            for (int place = 0; place < many; place++) {
                int value = (int) (bytes >>> (place * BYTE_BITS)) & BYTE_MASK;
                sum += value;
                writeByte(from + place * BYTE_CELLS, value);
            }
            writeByte(from + many * BYTE_CELLS, sum & BYTE_MASK);
        }

        private void writeByte(int from, int value) {
            for (int bit = 0; bit < BYTE_BITS; bit++) {
                setValue(written, from + bit, value >>> bit & 1);
            }
            setValue(written, from + BYTE_BITS, Integer.bitCount(value) & 1);
        }

        private int errorOfFading(int from, int to, int volume) {
            if (!hasCell(from) || !hasCell(to)) {
                return NO_SUCH;
            }
            return to < from || volume < 0 || volume > MOST_VOLUME ? BAD_VALUE : FINE;
        }

        private int fadeCells(int from, int to, int volume) {
            int faded = 0;
            for (int cell = from; cell <= to; cell++) {
                if (valueAt(volumes, cell) > volume) {
                    setValue(volumes, cell, volume);
                    faded++;
                }
            }
            return faded;
        }

        private int spoilCell(int cell) {
            int turned = 1 - valueAt(bad, cell);
            setValue(bad, cell, turned);
            return turned;
        }

        private int silentCells() {
            int silent = 0;
            int end = cells();
            for (int cell = 0; cell < end; cell++) {
                if (valueAt(volumes, cell) < setting(LEAST)) {
                    silent++;
                }
            }
            return silent;
        }

        private int badCells() {
            int spoiled = 0;
            int end = cells();
            for (int cell = 0; cell < end; cell++) {
                spoiled += valueAt(bad, cell);
            }
            return spoiled;
        }

        private int blockAt(int cell) {
            int block = 0;
            while (block < blocks - 1 && cell >= firstOf(block + 1)) {
                block++;
            }
            return block;
        }

        private int partAt(int cell) {
            int block = blockAt(cell);
            int inBlock = cell - firstOf(block);
            int length = tellingCells(block);
            if (inBlock < length) {
                return 0;
            }
            return inBlock < TELLINGS * length ? 1 : TELLINGS;
        }

        private int bitAt(int cell) {
            int block = blockAt(cell);
            int part = partAt(cell);
            int inPart = cell - firstOf(block) - part * tellingCells(block);
            if (part == TELLINGS || inPart < LEADER_CELLS) {
                return 0;
            }
            return toldAt(cell);
        }

        private int toldAt(int cell) {
            return valueAt(written, cell) ^ valueAt(bad, cell);
        }

        private int counterOf(int cell) {
            return (cell - cell * setting(SLIP) / 100) % COUNTER_ROUND;
        }

        private int distanceOf(int block, int counter) {
            int apart = Math.abs(counterOf(firstOf(block)) - counter);
            return Math.min(apart, COUNTER_ROUND - apart);
        }

        private int nearerBlocks(int block, int counter) {
            int distance = distanceOf(block, counter);
            int nearer = 0;
            for (int other = 0; other < blocks; other++) {
                int otherDistance = distanceOf(other, counter);
                if (otherDistance < distance || (otherDistance == distance && other < block)) {
                    nearer++;
                }
            }
            return nearer;
        }

        private int depthOf(int block) {
            int depth = 0;
            int under = valueAt(unders, block);
            while (under != NONE && depth < MOST_BLOCKS) {
                depth++;
                under = valueAt(unders, under);
            }
            return depth;
        }
    }

    /** A telling as it is read; what depends on LEAST is kept as the greatest LEAST by which it holds. */
    private static final class Telling {
        private int many;
        private int leaderHeard;
        private final int[] values = new int[MOST_BYTES + 1];
        private final int[] wholeUpTo = new int[MOST_BYTES + 1];

        private void readCells(Tape tape, int from, int manyBytes) {
            many = manyBytes;
            readLeader(tape, from);
            for (int place = 0; place <= many; place++) {
                readByte(tape, from + LEADER_CELLS + place * BYTE_CELLS, place);
            }
        }

        // Two cells have to be heard, so the second loudest of them decides.
        private void readLeader(Tape tape, int from) {
            int loudest = -1;
            int second = -1;
            for (int cell = from; cell < from + LEADER_CELLS; cell++) {
                int volume = valueAt(tape.volumes, cell);
                second = Math.max(second, Math.min(volume, loudest));
                loudest = Math.max(loudest, volume);
            }
            leaderHeard = second;
        }

        private void readByte(Tape tape, int from, int place) {
            int quietest = MOST_VOLUME;
            int value = 0;
            int ones = 0;
            for (int bit = 0; bit < BYTE_CELLS; bit++) {
                int told = tape.toldAt(from + bit);
                quietest = Math.min(quietest, valueAt(tape.volumes, from + bit));
                value |= told << bit;
                ones += told;
            }
            setValue(values, place, value & BYTE_MASK);
            boolean checkIsRight = (ones & 1) == 0;
            setValue(wholeUpTo, place, checkIsRight ? quietest : -1);
        }

        private boolean isLost(int least) {
            return leaderHeard < least;
        }

        private boolean isByteWhole(int place, int least) {
            return valueAt(wholeUpTo, place) >= least;
        }

        private boolean tellsSum(int sum, int least) {
            return isByteWhole(many, least) && valueAt(values, many) == (sum & BYTE_MASK);
        }

        private int stateBy(int least) {
            if (isLost(least)) {
                return LOST;
            }
            int sum = 0;
            for (int place = 0; place < many; place++) {
                if (!isByteWhole(place, least)) {
                    return BROKEN;
                }
                sum += valueAt(values, place);
            }
            return tellsSum(sum, least) ? WHOLE : UNSURE;
        }
    }

    /** Reads both tellings of a block, and loads it from them. */
    private static final class BlockReader {
        private final Telling first = new Telling();
        private final Telling second = new Telling();

        private Telling telling(int telling) {
            return telling == 0 ? first : second;
        }

        private void readBlock(Tape tape, int block) {
            int from = tape.firstOf(block);
            int many = valueAt(tape.manys, block);
            first.readCells(tape, from, many);
            second.readCells(tape, from + tape.tellingCells(block), many);
        }

        private int wayBy(int least) {
            if (first.stateBy(least) == WHOLE) {
                return BY_FIRST;
            }
            if (second.stateBy(least) == WHOLE) {
                return BY_SECOND;
            }
            return isWholeTogether(least) ? BY_BOTH : NONE;
        }

        private boolean isWholeTogether(int least) {
            if (first.isLost(least) || second.isLost(least)) {
                return false;
            }
            int sum = 0;
            for (int place = 0; place < first.many; place++) {
                int value = byteTogether(place, least);
                if (value == NONE) {
                    return false;
                }
                sum += value;
            }
            return first.tellsSum(sum, least) || second.tellsSum(sum, least);
        }

        private int byteTogether(int place, int least) {
            if (first.isByteWhole(place, least)) {
                return valueAt(first.values, place);
            }
            return second.isByteWhole(place, least) ? valueAt(second.values, place) : NONE;
        }

        private long bytesBy(int way, int least) {
            long bytes = 0;
            for (int place = first.many - 1; place >= 0; place--) {
                bytes = bytes << BYTE_BITS | byteBy(way, place, least);
            }
            return bytes;
        }

        private int byteBy(int way, int place, int least) {
            if (way == BY_SECOND) {
                return valueAt(second.values, place);
            }
            return way == BY_FIRST ? valueAt(first.values, place) : byteTogether(place, least);
        }
    }

    /** The text of orders, and the order of it that was taken last. */
    private static final class Pad {
        private final char[] characters = new char[MOST_CHARACTERS];
        private int length;
        private int at;

        private char kind;
        private int number;
        private int to;
        private int volume;
        private int under;
        private int many;
        private long bytes;
        private boolean byteTooGreat;

        /** How many characters are given by such a number, 0 if it gives none or wrong ones. */
        private int charactersIn(long given) {
            int found = 0;
            long rest = given;
            while (rest != 0 && found < MOST_GIVEN) {
                int code = (int) rest & BYTE_MASK;
                if (code < FIRST_CHARACTER || code > LAST_CHARACTER) {
                    return 0;
                }
                found++;
                rest >>>= BYTE_BITS;
            }
            return found;
        }

        private void append(long given, int found) {
            if (length < 0 || found < 0 || length + found > MOST_CHARACTERS) {
                return;
            }
            for (int place = 0; place < found; place++) {
                int code = (int) (given >>> ((found - 1 - place) * BYTE_BITS)) & BYTE_MASK;
                characters[length + place] = (char) code;
            }
            length += found;
        }

        private int findFault() {
            at = 0;
            for (int orders = 0; orders < MOST_CHARACTERS; orders++) {
                if (!takeOrder()) {
                    return at;
                }
                if (at == length) {
                    return NONE;
                }
                if (!takeSign(';')) {
                    return at;
                }
            }
            return at;
        }

        private boolean takeOrder() {
            kind = nextCharacter();
            if (kind != '+' && kind != 'f' && kind != 'x') {
                return false;
            }
            at++;
            number = takeNumber();
            if (number < 0) {
                return false;
            }
            if (kind == '+') {
                return takeUnder() && takeSign(':') && takeBytes();
            }
            return kind == 'x' || takeFading();
        }

        private boolean takeUnder() {
            under = NONE;
            if (takeSign('^')) {
                under = takeNumber();
                return under >= 0;
            }
            return true;
        }

        private boolean takeBytes() {
            many = 0;
            bytes = 0;
            byteTooGreat = false;
            for (int taken = 0; taken < MOST_CHARACTERS; taken++) {
                int value = takeNumber();
                if (value < 0) {
                    return false;
                }
                addByte(value);
                if (!takeSign(',')) {
                    return true;
                }
            }
            return false;
        }

        private void addByte(int value) {
            if (value > BYTE_MASK) {
                byteTooGreat = true;
            }
            if (many < MOST_BYTES) {
                bytes |= (long) (value & BYTE_MASK) << (many * BYTE_BITS);
            }
            many++;
        }

        private boolean takeFading() {
            if (!takeSign('-')) {
                return false;
            }
            to = takeNumber();
            if (to < 0 || !takeSign('=')) {
                return false;
            }
            volume = takeNumber();
            return volume >= 0;
        }

        // A digit that a number cannot take is left: none of what may follow a number begins with one.
        private int takeNumber() {
            int digit = nextDigit();
            if (digit < 0) {
                return NONE;
            }
            at++;
            int value = digit;
            for (int digits = 1; digits < MOST_DIGITS; digits++) {
                digit = nextDigit();
                // Behind a leading zero no digit can stand.
                if (digit < 0 || value == 0) {
                    break;
                }
                at++;
                value = value * 10 + digit;
            }
            return value;
        }

        private int nextDigit() {
            char next = nextCharacter();
            return next >= '0' && next <= '9' ? next - '0' : NONE;
        }

        private boolean takeSign(char sign) {
            if (nextCharacter() != sign) {
                return false;
            }
            at++;
            return true;
        }

        /** The character to be read next, 0 at the end: no character of a pad is 0. */
        private char nextCharacter() {
            return at >= 0 && at < length && at < MOST_CHARACTERS ? characters[at] : (char) 0;
        }
    }

    /** The states that can be undone, in a ring, so that no tape is made after the constructor. */
    private static final class History {
        private final Tape[] states = new Tape[MOST_STATES];
        private int oldest;
        private int size;

        private History() {
            for (int state = 0; state < MOST_STATES; state++) {
                states[state] = new Tape();
            }
        }

        private void keep(Tape tape) {
            Tape state = stateAt(oldest + size);
            if (state == null) {
                return;
            }
            state.copyFrom(tape);
            if (size < MOST_STATES) {
                size++;
            } else {
                oldest = (oldest + 1) % MOST_STATES;
            }
        }

        private void takeBack(Tape tape) {
            Tape state = stateAt(oldest + size - 1);
            if (size <= 0 || state == null) {
                return;
            }
            tape.copyFrom(state);
            size--;
        }

        private Tape stateAt(int turn) {
            int place = Math.floorMod(turn, MOST_STATES);
            return place >= 0 && place < states.length ? states[place] : null;
        }
    }

    /** What save() put away, if anything was. */
    private static final class Slot {
        private final Tape saved = new Tape();
        private boolean filled;
    }
}
