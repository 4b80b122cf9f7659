import java.util.function.Consumer;

/**
 * All that can be seen of an object after a run of calls. The document promises nothing after the 512th call of an
 * object, so the run is done again on a new one when one has been asked enough; the run itself may take 250 calls.
 */
final class Look {
    private static final int QUESTIONS = 250;

    private final Consumer<CassetteTones> run;
    private final StringBuilder seen = new StringBuilder();
    private CassetteTones object;
    private int left;

    private Look(Consumer<CassetteTones> run) {
        this.run = run;
    }

    /** What undo and the slots bring back: looks alike for two runs if the settings, blocks and cells are alike. */
    static String state(Consumer<CassetteTones> run) {
        Look look = new Look(run);
        look.counts();
        look.blocks();
        look.cells();
        return look.seen.toString();
    }

    /** The state, the pad, and every state that undo and the slots still hold. */
    static String whole(Consumer<CassetteTones> run) {
        Look look = new Look(run);
        look.see(state(run));
        look.pad();
        int changes = look.x().count(10);
        for (int back = 1; back <= changes; back++) {
            look.undone(back);
        }
        look.see(new Look(run).x().undo());
        look.slot(0);
        look.slot(1);
        return look.seen.toString();
    }

    private CassetteTones x() {
        if (left == 0) {
            object = new CassetteTones();
            run.accept(object);
            left = QUESTIONS;
        }
        left--;
        return object;
    }

    private void see(long answer) {
        seen.append(answer).append(' ');
    }

    private void see(String part) {
        seen.append(part).append('\n');
    }

    private void counts() {
        for (int what = 0; what <= 8; what++) {
            see(x().count(what));
        }
        see(x().reached());
        see(x().widest(0));
        see(x().widest(1));
    }

    private void blocks() {
        int blocks = x().count(0);
        for (int block = 0; block < blocks; block++) {
            for (int what = 0; what <= 9; what++) {
                see(x().of(block, what));
            }
            see(x().load(block));
            see(x().mostLeast(block));
        }
    }

    private void cells() {
        int cells = x().count(1);
        for (int cell = 0; cell < cells; cell++) {
            for (int what = 0; what <= 2; what++) {
                see(x().cell(cell, what));
            }
        }
    }

    // What stands on the pad shows in what it does; a pad with a fault is read no further than there.
    private void pad() {
        see(x().count(9));
        see(x().fault());
        see(new Look(run).x().carryOut());
        see(state(run.andThen(CassetteTones::carryOut)));
    }

    private void undone(int back) {
        Consumer<CassetteTones> further = run.andThen(x -> {
            for (int change = 0; change < back; change++) {
                x.undo();
            }
        });
        see(new Look(further).x().count(10));
        see(state(further));
    }

    private void slot(int slot) {
        see(new Look(run).x().restore(slot));
        see(state(run.andThen(x -> x.restore(slot))));
    }
}
