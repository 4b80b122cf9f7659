import java.util.Random;

/** Runs of 512 calls by chance, always the same ones, on the class and on the plain one: each answer has to be alike. */
public final class RandomRunsTest {
    private static final int RUNS = 400;
    private static final int CALLS = 512;
    // A text is put on the pad by many calls at once.
    private static final int CALLS_OF_A_TEXT = 40;
    private static final int[] ODD = {Integer.MIN_VALUE, -1000, -7, -6, -5, -4, -3, -2, -1, 0, 1, 2, 3, 4, 7, 8, 9, 10,
        11, 15, 16, 17, 20, 21, 31, 32, 79, 80, 99, 100, 255, 256, 999, 1000, 1001, 2463, 2464, Integer.MAX_VALUE};

    private final Random chance;
    private final CassetteTones x = new CassetteTones();
    private final PlainCassette plain = new PlainCassette();
    private final StringBuilder log = new StringBuilder();
    private int lastCell;
    private int calls;
    private boolean same = true;

    private RandomRunsTest(long seed) {
        chance = new Random(seed);
    }

    public static void main(String[] args) {
        for (int run = 0; run < RUNS && Due.wrong() == 0; run++) {
            new RandomRunsTest(run).run(run);
        }
        Due.end();
    }

    private void run(int number) {
        while (calls < CALLS && same) {
            call();
        }
        if (!same) {
            System.out.println("run " + number + ":\n" + log);
        }
    }

    private void compare(String call, long got, long want) {
        log.append(call).append(" -> ").append(got).append('\n');
        Due.is(call, got, want);
        same &= got == want;
        calls++;
    }

    private int upTo(int bound) {
        return chance.nextInt(Math.max(1, bound));
    }

    /** Mostly a number of 0 up to less than the bound, now and then one just or far outside. */
    private int about(int bound) {
        switch (upTo(25)) {
            case 0:
                return ODD[upTo(ODD.length)];
            case 1:
                return bound;
            default:
                return upTo(bound);
        }
    }

    private int block() {
        return about(plain.count(0));
    }

    /** Often near the one before, so that several cells of a byte are touched. */
    private int cell() {
        int cell = about(plain.count(1));
        if (upTo(3) > 0) {
            cell = lastCell + upTo(12) - 6;
        }
        lastCell = cell;
        return cell;
    }

    private void call() {
        int kind = upTo(100);
        if (kind < 50) {
            change(kind);
        } else if (kind < 90) {
            ask(kind - 50);
        } else if (calls + CALLS_OF_A_TEXT <= CALLS) {
            text();
        }
    }

    private void change(int kind) {
        if (kind < 14) {
            int cell = cell();
            compare("spoil(" + cell + ")", x.spoil(cell), plain.spoil(cell));
        } else if (kind < 24) {
            fade();
        } else if (kind < 34) {
            write();
        } else if (kind < 38) {
            int setting = about(3);
            int value = upTo(4) == 0 ? about(100) : setting == 2 ? about(21) : 20 + upTo(50);
            compare("set(" + setting + ", " + value + ")", x.set(setting, value), plain.set(setting, value));
        } else if (kind < 42) {
            compare("wipeLast()", x.wipeLast(), plain.wipeLast());
        } else if (kind < 46) {
            compare("undo()", x.undo(), plain.undo());
        } else if (kind < 48) {
            int slot = about(2);
            compare("save(" + slot + ")", x.save(slot), plain.save(slot));
        } else {
            int slot = about(2);
            compare("restore(" + slot + ")", x.restore(slot), plain.restore(slot));
        }
    }

    private void fade() {
        int from = cell();
        int to = upTo(4) == 0 ? about(plain.count(1)) : from + upTo(4);
        int volume = upTo(4) == 0 ? about(100) : 15 + upTo(40);
        compare("fade(" + from + ", " + to + ", " + volume + ")", x.fade(from, to, volume), plain.fade(from, to, volume));
    }

    private void write() {
        int name = about(100);
        int under = upTo(3) == 0 ? CassetteTones.NONE : block();
        int many = upTo(12) == 0 ? about(8) : 1 + upTo(3) * upTo(4);
        long bytes = chance.nextLong() >> upTo(64);
        compare("write(" + name + ", " + under + ", " + many + ", " + bytes + ")",
            x.write(name, under, many, bytes), plain.write(name, under, many, bytes));
    }

    private void ask(int kind) {
        int block = block();
        int telling = about(2);
        int what;
        switch (kind / 4) {
            case 0:
                what = upTo(2) == 0 ? about(10) : 5 + upTo(3);
                compare("of(" + block + ", " + what + ")", x.of(block, what), plain.of(block, what));
                break;
            case 1:
                compare("load(" + block + ")", x.load(block), plain.load(block));
                break;
            case 2:
                what = about(upTo(4) == 0 ? 9 : 2);
                compare("read(" + block + ", " + telling + ", " + what + ")",
                    x.read(block, telling, what), plain.read(block, telling, what));
                break;
            case 3:
                int cell = cell();
                what = about(6);
                compare("cell(" + cell + ", " + what + ")", x.cell(cell, what), plain.cell(cell, what));
                break;
            case 4:
                what = about(11);
                compare("count(" + what + ")", x.count(what), plain.count(what));
                break;
            case 5:
                compare("reached()", x.reached(), plain.reached());
                break;
            case 6:
                int counter = about(1000);
                compare("near(" + counter + ", " + block + ")", x.near(counter, block), plain.near(counter, block));
                break;
            case 7:
                compare("mostLeast(" + block + ")", x.mostLeast(block), plain.mostLeast(block));
                break;
            case 8:
                compare("weak(" + block + ", " + telling + ")", x.weak(block, telling), plain.weak(block, telling));
                break;
            default:
                compare("widest(" + telling + ")", x.widest(telling), plain.widest(telling));
                break;
        }
    }

    private void text() {
        if (upTo(4) == 0) {
            compare("wipe()", x.wipe(), plain.wipe());
        }
        StringBuilder text = new StringBuilder(plain.count(9) > 0 && upTo(4) > 0 ? ";" : "");
        for (int orders = upTo(4); orders >= 0; orders--) {
            text.append(order()).append(orders > 0 ? ";" : "");
        }
        if (upTo(4) == 0) {
            text.setCharAt(upTo(text.length()), "+^:,;f-=x0123456789!~"
                .charAt(upTo(21)));
        }
        for (int from = 0; from < text.length(); from += 8) {
            put(Tapes.given(text.substring(from, Math.min(text.length(), from + 8))));
        }
        if (upTo(8) == 0) {
            put(chance.nextLong() >>> upTo(64));
        }
        compare("fault()", x.fault(), plain.fault());
        if (upTo(3) > 0) {
            compare("carryOut()", x.carryOut(), plain.carryOut());
        }
    }

    private void put(long characters) {
        compare("put(" + characters + ")", x.put(characters), plain.put(characters));
    }

    /** A number as texts have it, now and then one that they must not have. */
    private String number(int number) {
        int least = Math.max(0, number);
        return upTo(60) == 0 ? "0" + least : Integer.toString(upTo(60) == 0 ? least % 10 + 9995 : least);
    }

    private String order() {
        switch (upTo(3)) {
            case 0:
                return "x" + number(cell());
            case 1:
                int from = cell();
                return "f" + number(from) + "-" + number(from + upTo(5)) + "=" + number(upTo(102));
            default:
                StringBuilder order = new StringBuilder("+").append(number(upTo(103)));
                if (upTo(2) == 0) {
                    order.append('^').append(number(upTo(plain.count(0) + 1)));
                }
                order.append(':').append(number(upTo(258)));
                for (int more = upTo(9) * upTo(2); more > 0; more--) {
                    order.append(',').append(number(upTo(258)));
                }
                return order.toString();
        }
    }
}
