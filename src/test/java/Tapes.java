/** Small helpers that the tests share. */
final class Tapes {
    static final int NONE = CassetteTones.NONE;

    private Tapes() {
    }

    /** The number by which put() is given these 1 to 8 characters. */
    static long given(String characters) {
        long number = 0;
        for (int place = 0; place < characters.length(); place++) {
            number = number << 8 | characters.charAt(place);
        }
        return number;
    }

    static void putAll(CassetteTones tape, String text) {
        for (int from = 0; from < text.length(); from += 8) {
            tape.put(given(text.substring(from, Math.min(text.length(), from + 8))));
        }
    }

    static CassetteTones withPad(String text) {
        CassetteTones tape = new CassetteTones();
        putAll(tape, text);
        return tape;
    }

    static void spoilAll(CassetteTones tape, int... cells) {
        for (int cell : cells) {
            tape.spoil(cell);
        }
    }

    static CassetteTones withBlocks(int many) {
        CassetteTones tape = new CassetteTones();
        for (int block = 0; block < many; block++) {
            tape.write(block, NONE, 1, block);
        }
        return tape;
    }

    /** What undo and the slots bring back, and the pad and how many changes can be undone. */
    static String picture(CassetteTones tape) {
        return new StringBuilder(state(tape)).append('\n').append(tape.count(9)).append(' ').append(tape.fault())
            .append(' ').append(tape.count(10)).toString();
    }

    /** Every answer about the settings, the blocks and the cells: tapes with the same text are in the same state. */
    static String state(CassetteTones tape) {
        StringBuilder all = new StringBuilder();
        for (int what = 0; what <= 8; what++) {
            all.append(tape.count(what)).append(' ');
        }
        all.append(tape.reached()).append('\n');
        for (int block = 0; block < tape.count(0); block++) {
            for (int what = 0; what <= 9; what++) {
                all.append(tape.of(block, what)).append(' ');
            }
            all.append(tape.load(block)).append('\n');
        }
        for (int cell = 0; cell < tape.count(1); cell++) {
            for (int what = 0; what <= 5; what++) {
                all.append(tape.cell(cell, what)).append(' ');
            }
        }
        return all.toString();
    }
}
