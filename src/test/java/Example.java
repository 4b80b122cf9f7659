/** What README.md shows: a block that is spoilt in both tellings, and what is done about it. */
public final class Example {
    private Example() {
    }

    public static void main(String[] args) {
        CassetteTones tape = new CassetteTones();

        // A block with the name 5, under none, of two bytes: 1 (the lowest 8 bits) and 2.
        int block = tape.write(5, CassetteTones.NONE, 2, 0x0201);
        show("its number", block);
        show("its cells", tape.of(block, 4));

        // The cell 4 is the first bit of the telling 0, the cell 44 is in the second byte of the telling 1.
        tape.spoil(4);
        tape.spoil(44);
        show("the telling 0 (2: broken)", tape.of(block, 5));
        show("the telling 1 (2: broken)", tape.of(block, 6));
        show("it is loaded (2: by both together)", tape.of(block, 7));
        show("as", tape.load(block));

        // A hand on the volume: the leader of the telling 1 fades below LEAST, which is 30.
        show("cells that fade", tape.fade(31, 34, 20));
        show("it is loaded (NONE: it is not)", tape.of(block, 7));
        show("the greatest LEAST that would load it", tape.mostLeast(block));

        // The fading is undone; the two cells stay bad.
        show("changes that are left after undo", tape.undo());
        show("it is loaded", tape.of(block, 7));

        // The pad takes up to eight characters at a time, the last one in the lowest 8 bits.
        put(tape, "+7^0:255;x4");
        show("the fault of the pad (NONE)", tape.fault());
        show("orders that are carried out", tape.carryOut());
        show("blocks that can be reached, as a set", tape.reached());

        // A slot keeps all but the pad, the history and the slots.
        show("blocks that are saved", tape.save(0));
        tape.wipeLast();
        show("blocks that are restored", tape.restore(0));
        show("a refused call (NO_SUCH)", tape.spoil(9999));
    }

    private static void put(CassetteTones tape, String text) {
        for (int from = 0; from < text.length(); from += 8) {
            long characters = 0;
            for (int at = from; at < text.length() && at < from + 8; at++) {
                characters = characters << 8 | text.charAt(at);
            }
            tape.put(characters);
        }
    }

    private static void show(String what, long answer) {
        System.out.println(what + ": " + answer);
    }
}
