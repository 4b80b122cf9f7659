/** Small helpers that the tests share. */
final class Tapes {
    static final int NONE = CassetteTones.NONE;

    private Tapes() {
    }

    /** The number by which put() is given these 1 to 8 characters. */
    static long given(String characters) {
        long number = 0;
        for (int place = 0; place < characters.length(); place++) {
            number = number << 8 | characters.charAt(place);
        }
        return number;
    }

    static void putAll(CassetteTones tape, String text) {
        for (int from = 0; from < text.length(); from += 8) {
            tape.put(given(text.substring(from, Math.min(text.length(), from + 8))));
        }
    }

    static CassetteTones withPad(String text) {
        CassetteTones tape = new CassetteTones();
        putAll(tape, text);
        return tape;
    }

    static void spoilAll(CassetteTones tape, int... cells) {
        for (int cell : cells) {
            tape.spoil(cell);
        }
    }

    static CassetteTones withBlocks(int many) {
        return withBlocksOf(many, 1);
    }

    /** So many blocks under none, each of so many bytes; their names are their numbers, and so are their bytes. */
    static CassetteTones withBlocksOf(int blocks, int many) {
        CassetteTones tape = new CassetteTones();
        for (int block = 0; block < blocks; block++) {
            tape.write(block, NONE, many, block);
        }
        return tape;
    }

    /** So many blocks of one byte, each under the one before it. */
    static CassetteTones chain(int blocks) {
        CassetteTones tape = new CassetteTones();
        for (int block = 0; block < blocks; block++) {
            tape.write(block, block == 0 ? NONE : block - 1, 1, block);
        }
        return tape;
    }
}
