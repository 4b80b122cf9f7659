import java.util.ArrayList;
import java.util.List;
import java.util.function.Consumer;
import java.util.function.ToLongFunction;

/**
 * Each refused call, on the empty tape, on one in the middle and on the full one: the error that is due where several
 * apply, and nothing changed behind it. What only asks is looked at in the same way.
 */
public final class RefusedTest {
    private static final int NO_SUCH = -1, BAD_VALUE = -2, BAD_TEXT = -3, TOO_MANY = -4, NOT_POSSIBLE = -5, NONE = -6;
    private static final int LOUD = 0, LEAST = 1, SLIP = 2;
    private static final int LOW = Integer.MIN_VALUE, HIGH = Integer.MAX_VALUE;

    private final String scene;
    private final Consumer<CassetteTones> run;
    private final String before;
    private final List<ToLongFunction<CassetteTones>> calls = new ArrayList<>();
    private CassetteTones object;

    private RefusedTest(String scene, Consumer<CassetteTones> run) {
        this.scene = scene;
        this.run = run;
        before = Look.whole(run);
    }

    public static void main(String[] args) {
        onEmptyTape();
        inTheMiddle();
        onFullTape();
        faultyPads();
        Due.end();
    }

    private void due(String call, long want, ToLongFunction<CassetteTones> asked) {
        if (object == null) {
            object = new CassetteTones();
            run.accept(object);
        }
        Due.is(scene + ": " + call, asked.applyAsLong(object), want);
        calls.add(asked);
    }

    /** Looks at the object after all calls since the last time. */
    private void nothingChanged(String group) {
        String after = Look.whole(run.andThen(x -> calls.forEach(call -> call.applyAsLong(x))));
        Due.holds(scene + ": " + group + " changes nothing", after.equals(before));
        calls.clear();
        object = null;
    }

    private static void onEmptyTape() {
        RefusedTest test = new RefusedTest("empty", x -> { });
        test.noSuchSetting();
        for (int under : new int[] {0, 1, -1, -5, -7, 15, 16, LOW, HIGH}) {
            test.due("write under " + under, NO_SUCH, x -> x.write(0, under, 1, 1));
            test.due("write under " + under + " with all wrong", NO_SUCH, x -> x.write(100, under, 8, 1));
        }
        test.wrongBlocks(NONE, BAD_VALUE);
        test.nothingChanged("write");
        test.due("wipeLast", NOT_POSSIBLE, CassetteTones::wipeLast);
        test.nothingChanged("wipeLast");
        test.noSuchCells(new int[] {-1, 0, 1, LOW, HIGH}, 0);
        test.noSuchBlocks(new int[] {-1, 0, 1, 15, 16, NONE, LOW, HIGH});
        test.wrongNumbers();
        test.due("near(0, 0)", NO_SUCH, x -> x.near(0, 0));
        test.due("near(-1, 0)", NO_SUCH, x -> x.near(-1, 0));
        test.due("near(1000, 0)", NO_SUCH, x -> x.near(1000, 0));
        test.due("near(0, -1)", NO_SUCH, x -> x.near(0, -1));
        test.nothingChanged("near");
        test.due("widest(0)", NONE, x -> x.widest(0));
        test.due("widest(1)", NONE, x -> x.widest(1));
        test.nothingChanged("widest");
        test.wrongCharacters();
        test.due("carryOut", BAD_TEXT, CassetteTones::carryOut);
        test.due("undo", NOT_POSSIBLE, CassetteTones::undo);
        test.nothingChanged("carryOut, undo");
        test.due("restore(0)", NOT_POSSIBLE, x -> x.restore(0));
        test.due("restore(1)", NOT_POSSIBLE, x -> x.restore(1));
        test.noSuchSlots();
        test.due("fault", 0, CassetteTones::fault);
        test.due("wipe", 0, CassetteTones::wipe);
        test.due("reached", 0, CassetteTones::reached);
        test.nothingChanged("fault, wipe of an empty pad, reached");
    }

    // Three blocks: 0 to 45 (loaded by both together), 46 to 109 (not loaded), 110 to 263 (whole).
    private static void middle(CassetteTones x) {
        x.set(LOUD, 70);
        x.set(SLIP, 7);
        x.write(3, NONE, 1, 9);
        x.write(4, 0, 2, 0x8001);
        x.write(99, 1, 7, 0x7766554433221100L);
        Tapes.spoilAll(x, 4, 35, 0, 262);
        x.save(1);
        x.fade(46, 80, 10);
        x.set(LEAST, 40);
        Tapes.putAll(x, "x5;+7^0:8");
    }

    private static void inTheMiddle() {
        RefusedTest test = new RefusedTest("middle", RefusedTest::middle);
        test.noSuchSetting();
        for (int under : new int[] {3, 4, -1, -5, -7, 15, 16, LOW, HIGH}) {
            test.due("write under " + under, NO_SUCH, x -> x.write(0, under, 1, 1));
            test.due("write under " + under + " with all wrong", NO_SUCH, x -> x.write(-1, under, 0, 1));
        }
        test.wrongBlocks(2, BAD_VALUE);
        test.nothingChanged("write");
        test.noSuchCells(new int[] {-1, 264, 265, 999, 9999, LOW, HIGH}, 263);
        test.wrongFading(0, 263);
        test.noSuchBlocks(new int[] {-1, 3, 4, 15, 16, NONE, LOW, HIGH});
        test.wrongQuestions(2, 263, 7);
        test.due("load of one that is not loaded", NOT_POSSIBLE, x -> x.load(1));
        test.due("of(1, 7)", NONE, x -> x.of(1, 7));
        test.due("mostLeast(1)", 10, x -> x.mostLeast(1));
        test.due("weak, lost", NOT_POSSIBLE, x -> x.weak(1, 0));
        test.due("weak, broken", NOT_POSSIBLE, x -> x.weak(0, 0));
        test.due("weak, unsure", NOT_POSSIBLE, x -> x.weak(0, 1));
        test.due("weak, broken and no such telling", BAD_VALUE, x -> x.weak(0, 2));
        test.due("read, lost", NONE, x -> x.read(1, 0, 0));
        test.due("read, lost and no such telling", BAD_VALUE, x -> x.read(1, 2, 0));
        test.due("read, lost and no such place", NO_SUCH, x -> x.read(1, 0, 3));
        test.nothingChanged("asking for what is not loaded");
        test.wrongNumbers();
        test.nearAndRank(3);
        test.wrongCharacters();
        test.due("restore(0)", NOT_POSSIBLE, x -> x.restore(0));
        test.noSuchSlots();
        test.questions(3, 264);
    }

    // The history, the tape and the pad are full, and so are both slots.
    private static void full(CassetteTones x) {
        for (int block = 0; block < 16; block++) {
            x.write(block, block - 1 < 0 ? NONE : block - 1, 1, 255 - block);
        }
        x.save(1);
        Tapes.spoilAll(x, 4, 735);
        x.fade(100, 140, 5);
        x.save(0);
        x.set(LEAST, 20);
        x.set(LOUD, 99);
        x.set(SLIP, 20);
        x.fade(200, 222, 20);
        Tapes.putAll(x, "x10;x11;x12;x13;x14;x15;x16;x17;x18;x19;x20;x21;x22;x23;x24;x25;x26;f0-9=30;x123");
    }

    private static void onFullTape() {
        RefusedTest test = new RefusedTest("full", RefusedTest::full);
        test.noSuchSetting();
        for (int under : new int[] {16, 17, -1, -5, -7, LOW, HIGH}) {
            test.due("write under " + under, NO_SUCH, x -> x.write(0, under, 1, 1));
            test.due("write under " + under + " with all wrong", NO_SUCH, x -> x.write(100, under, 8, 1));
        }
        test.wrongBlocks(15, BAD_VALUE);
        test.due("write, the seventeenth", TOO_MANY, x -> x.write(0, NONE, 1, 0));
        test.due("write, the seventeenth under the last", TOO_MANY, x -> x.write(99, 15, 7, -1));
        test.nothingChanged("write");
        test.noSuchCells(new int[] {-1, 736, 737, 2464, LOW, HIGH}, 735);
        test.wrongFading(0, 735);
        test.noSuchBlocks(new int[] {-1, 16, 17, NONE, LOW, HIGH});
        test.wrongQuestions(15, 735, 1);
        test.wrongNumbers();
        test.nearAndRank(16);
        test.wrongCharacters();
        test.due("put, one too many", TOO_MANY, x -> x.put('x'));
        test.due("put, eight too many", TOO_MANY, x -> x.put(Tapes.given(";x1;x2;x")));
        test.nothingChanged("put on the full pad");
        test.noSuchSlots();
        test.questions(16, 736);
    }

    private static void faultyPads() {
        for (String text : new String[] {"x", "+1:2;", "x5;y", "x00", "f1-2=10000", "x5;x6;+"}) {
            RefusedTest test = new RefusedTest("pad " + text, x -> {
                middle(x);
                x.wipe();
                Tapes.putAll(x, text);
            });
            test.due("carryOut", BAD_TEXT, CassetteTones::carryOut);
            test.nothingChanged("carryOut");
        }
    }

    private void noSuchSetting() {
        for (int setting : new int[] {-1, 3, 4, NONE, LOW, HIGH}) {
            due("set(" + setting + ", 0)", BAD_VALUE, x -> x.set(setting, 0));
        }
        for (int value : new int[] {-1, 100, LOW, HIGH}) {
            due("LOUD " + value, BAD_VALUE, x -> x.set(LOUD, value));
            due("LEAST " + value, BAD_VALUE, x -> x.set(LEAST, value));
        }
        for (int value : new int[] {-1, 21, 99, LOW, HIGH}) {
            due("SLIP " + value, BAD_VALUE, x -> x.set(SLIP, value));
        }
        nothingChanged("set");
    }

    private void wrongBlocks(int under, long want) {
        for (int name : new int[] {-1, 100, LOW, HIGH}) {
            due("write name " + name, want, x -> x.write(name, under, 1, 1));
        }
        for (int many : new int[] {-1, 0, 8, LOW, HIGH}) {
            due("write many " + many, want, x -> x.write(0, under, many, 1));
        }
    }

    private void noSuchCells(int[] cells, int last) {
        for (int cell : cells) {
            due("spoil(" + cell + ")", NO_SUCH, x -> x.spoil(cell));
            due("fade from " + cell, NO_SUCH, x -> x.fade(cell, last, 0));
            due("fade to " + cell, NO_SUCH, x -> x.fade(0, cell, 0));
            due("fade from " + cell + ", wrong volume", NO_SUCH, x -> x.fade(cell, last, 100));
            due("fade to " + cell + ", wrong volume", NO_SUCH, x -> x.fade(last, cell, -1));
            due("cell(" + cell + ", 0)", NO_SUCH, x -> x.cell(cell, 0));
            due("cell(" + cell + ", 6)", NO_SUCH, x -> x.cell(cell, 6));
            due("cell(" + cell + ", -1)", NO_SUCH, x -> x.cell(cell, -1));
        }
        nothingChanged("spoil, fade and cell of no such cell");
    }

    private void wrongFading(int first, int last) {
        due("fade back by one", BAD_VALUE, x -> x.fade(first + 1, first, 0));
        due("fade back by all", BAD_VALUE, x -> x.fade(last, first, 0));
        due("fade back at the end", BAD_VALUE, x -> x.fade(last, last - 1, 99));
        for (int volume : new int[] {-1, 100, LOW, HIGH}) {
            due("fade to the volume " + volume, BAD_VALUE, x -> x.fade(first, last, volume));
            due("fade back to the volume " + volume, BAD_VALUE, x -> x.fade(last, first, volume));
        }
        nothingChanged("fade");
    }

    private void noSuchBlocks(int[] blocks) {
        for (int block : blocks) {
            for (int what : new int[] {-1, 0, 9, 10}) {
                due("of(" + block + ", " + what + ")", NO_SUCH, x -> x.of(block, what));
            }
            due("load(" + block + ")", NO_SUCH, x -> x.load(block));
            due("mostLeast(" + block + ")", NO_SUCH, x -> x.mostLeast(block));
            for (int telling : new int[] {-1, 0, 1, 2}) {
                due("weak(" + block + ", " + telling + ")", NO_SUCH, x -> x.weak(block, telling));
                due("read(" + block + ", " + telling + ", 0)", NO_SUCH, x -> x.read(block, telling, 0));
                due("read(" + block + ", " + telling + ", 8)", NO_SUCH, x -> x.read(block, telling, 8));
            }
        }
        nothingChanged("asking for no such block");
    }

    private void wrongQuestions(int block, int cell, int many) {
        for (int what : new int[] {-1, 10, LOW, HIGH}) {
            due("of(" + block + ", " + what + ")", BAD_VALUE, x -> x.of(block, what));
        }
        for (int what : new int[] {-1, 6, LOW, HIGH}) {
            due("cell(" + cell + ", " + what + ")", BAD_VALUE, x -> x.cell(cell, what));
            due("cell(0, " + what + ")", BAD_VALUE, x -> x.cell(0, what));
        }
        for (int telling : new int[] {-1, 2, LOW, HIGH}) {
            due("weak(" + block + ", " + telling + ")", BAD_VALUE, x -> x.weak(block, telling));
            due("read of the telling " + telling, BAD_VALUE, x -> x.read(block, telling, many));
            due("read of the telling " + telling + ", no such place", NO_SUCH, x -> x.read(block, telling, many + 1));
        }
        for (int place : new int[] {-1, many + 1, LOW, HIGH}) {
            due("read of the place " + place, NO_SUCH, x -> x.read(block, 1, place));
        }
        nothingChanged("asking wrongly");
    }

    private void wrongNumbers() {
        for (int what : new int[] {-1, 11, 12, LOW, HIGH}) {
            due("count(" + what + ")", BAD_VALUE, x -> x.count(what));
        }
        for (int what : new int[] {-1, 2, 3, LOW, HIGH}) {
            due("widest(" + what + ")", BAD_VALUE, x -> x.widest(what));
        }
        nothingChanged("count and widest");
    }

    private void nearAndRank(int blocks) {
        for (int rank : new int[] {blocks, blocks + 1, -1, LOW, HIGH}) {
            due("near(0, " + rank + ")", NO_SUCH, x -> x.near(0, rank));
            due("near(1000, " + rank + ")", NO_SUCH, x -> x.near(1000, rank));
            due("near(-1, " + rank + ")", NO_SUCH, x -> x.near(-1, rank));
        }
        for (int counter : new int[] {-1, 1000, LOW, HIGH}) {
            due("near(" + counter + ", 0)", BAD_VALUE, x -> x.near(counter, 0));
            due("near(" + counter + ", the last)", BAD_VALUE, x -> x.near(counter, blocks - 1));
        }
        nothingChanged("near");
    }

    private void wrongCharacters() {
        long[] wrong = {0, 32, 127, 128, 255, 0x2100, 0x210021, 0x2021, 0x2120, 0x7F21, 0x217F, 0x2100000000000000L,
            0x2100212121212121L, 0x2121212121210021L, 0x2021212121212121L, 0x7F21212121212121L, 0x8021212121212121L,
            0x0121212121212121L, 0x2121212121212120L, -1, Long.MIN_VALUE, Long.MAX_VALUE};
        for (long characters : wrong) {
            due("put(" + characters + ")", BAD_VALUE, x -> x.put(characters));
        }
        nothingChanged("put");
    }

    private void noSuchSlots() {
        for (int slot : new int[] {-1, 2, 3, LOW, HIGH}) {
            due("save(" + slot + ")", BAD_VALUE, x -> x.save(slot));
            due("restore(" + slot + ")", BAD_VALUE, x -> x.restore(slot));
        }
        nothingChanged("save and restore");
    }

    /** What is there and what if: no answer is an error, and nothing changes. */
    private void questions(int blocks, int cells) {
        for (int block = 0; block < blocks; block++) {
            for (int what = 0; what <= 9; what += 1 + block % 3) {
                ask(block, what);
            }
        }
        for (int cell = 0; cell < cells; cell += cells / 8) {
            int asked = cell;
            calls.add(x -> x.cell(asked, 2));
            calls.add(x -> x.near(asked, blocks - 1));
        }
        for (int what = 0; what <= 10; what++) {
            int asked = what;
            calls.add(x -> x.count(asked));
        }
        calls.add(CassetteTones::reached);
        calls.add(CassetteTones::fault);
        calls.add(x -> x.widest(0));
        calls.add(x -> x.widest(1));
        nothingChanged("asking");
    }

    private void ask(int block, int what) {
        calls.add(x -> x.of(block, what));
        if (what == 0) {
            calls.add(x -> x.load(block));
            calls.add(x -> x.mostLeast(block));
            calls.add(x -> x.weak(block, 0));
            calls.add(x -> x.weak(block, 1));
            calls.add(x -> x.read(block, 1, 1));
        }
    }
}
