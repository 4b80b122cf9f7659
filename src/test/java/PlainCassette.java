import java.util.ArrayDeque;
import java.util.ArrayList;
import java.util.Comparator;
import java.util.Deque;
import java.util.List;
import java.util.regex.Matcher;
import java.util.regex.Pattern;

/**
 * The document said once more, as plainly as it goes and without a thought of cost, to be compared with the class:
 * tellings are texts of bits, states are copied whole, a text of orders is judged by a regular expression.
 */
final class PlainCassette {
    private static final int NO_SUCH = -1, BAD_VALUE = -2, BAD_TEXT = -3, TOO_MANY = -4, NOT_POSSIBLE = -5, NONE = -6;
    private static final String NUMBER = "(0|[1-9][0-9]{0,3})";
    private static final String ORDER = "(\\+" + NUMBER + "(\\^" + NUMBER + ")?:" + NUMBER + "(," + NUMBER + ")*"
        + "|f" + NUMBER + "-" + NUMBER + "=" + NUMBER + "|x" + NUMBER + ")";
    private static final Pattern TEXT = Pattern.compile(ORDER + "(;" + ORDER + ")*");

    private static final class Cell {
        private int volume;
        private boolean bad;

        private Cell(int volume, boolean bad) {
            this.volume = volume;
            this.bad = bad;
        }
    }

    private static final class Block {
        private int name;
        private int under;
        private int many;
        private String bits;
        private final List<Cell> cells = new ArrayList<>();

        private Block copy() {
            Block copy = new Block();
            copy.name = name;
            copy.under = under;
            copy.many = many;
            copy.bits = bits;
            for (Cell cell : cells) {
                copy.cells.add(new Cell(cell.volume, cell.bad));
            }
            return copy;
        }

        private int length() {
            return 4 + 9 * (many + 1);
        }

        /** The signs of a byte as they are read, "?" for a silent one. */
        private String heard(int telling, int place, int least) {
            StringBuilder heard = new StringBuilder();
            for (int sign = 0; sign < 9; sign++) {
                int at = telling * length() + 4 + 9 * place + sign;
                Cell cell = cells.get(at);
                boolean one = bits.charAt(at) == '1' != cell.bad;
                heard.append(cell.volume < least ? '?' : one ? '1' : '0');
            }
            return heard.toString();
        }

        private int byteAt(int telling, int place, int least) {
            String heard = heard(telling, place, least);
            String ones = heard.substring(0, 8).replace("0", "");
            if (heard.contains("?") || ones.length() % 2 != heard.charAt(8) - '0') {
                return NONE;
            }
            return Integer.parseInt(new StringBuilder(heard.substring(0, 8)).reverse().toString(), 2);
        }

        private int state(int telling, int least) {
            int heard = 0;
            for (int cell = 0; cell < 4; cell++) {
                heard += cells.get(telling * length() + cell).volume >= least ? 1 : 0;
            }
            if (heard < 2) {
                return 1;
            }
            int sum = 0;
            for (int place = 0; place < many; place++) {
                if (byteAt(telling, place, least) == NONE) {
                    return 2;
                }
                sum += byteAt(telling, place, least);
            }
            return byteAt(telling, many, least) == sum % 256 ? 0 : 3;
        }

        private long[] loaded(int least) {
            for (int telling = 0; telling < 2; telling++) {
                if (state(telling, least) == 0) {
                    long bytes = 0;
                    for (int place = 0; place < many; place++) {
                        bytes += (long) byteAt(telling, place, least) << 8 * place;
                    }
                    return new long[] {telling, bytes};
                }
            }
            if (state(0, least) == 1 || state(1, least) == 1) {
                return new long[] {NONE, NOT_POSSIBLE};
            }
            long bytes = 0;
            int sum = 0;
            for (int place = 0; place < many; place++) {
                int value = byteAt(0, place, least);
                if (value == NONE) {
                    value = byteAt(1, place, least);
                }
                if (value == NONE) {
                    return new long[] {NONE, NOT_POSSIBLE};
                }
                sum += value;
                bytes += (long) value << 8 * place;
            }
            boolean right = byteAt(0, many, least) == sum % 256 || byteAt(1, many, least) == sum % 256;
            return right ? new long[] {2, bytes} : new long[] {NONE, NOT_POSSIBLE};
        }
    }

    private static final class State {
        private int[] settings = {60, 30, 3};
        private final List<Block> blocks = new ArrayList<>();

        private State copy() {
            State copy = new State();
            copy.settings = settings.clone();
            for (Block block : blocks) {
                copy.blocks.add(block.copy());
            }
            return copy;
        }
    }

    private State now = new State();
    private final Deque<State> history = new ArrayDeque<>();
    private final State[] slots = new State[2];
    private String pad = "";

    private void keep(State before) {
        history.addLast(before);
        if (history.size() > 6) {
            history.removeFirst();
        }
    }

    private List<Cell> tape() {
        List<Cell> tape = new ArrayList<>();
        for (Block block : now.blocks) {
            tape.addAll(block.cells);
        }
        return tape;
    }

    private Block block(int number) {
        return number >= 0 && number < now.blocks.size() ? now.blocks.get(number) : null;
    }

    private int first(int number) {
        int first = 0;
        for (Block block : now.blocks.subList(0, number)) {
            first += block.cells.size();
        }
        return first;
    }

    private int counter(int cell) {
        return (cell - cell * now.settings[2] / 100) % 1000;
    }

    private int least() {
        return now.settings[1];
    }

    int set(int setting, int value) {
        if (setting < 0 || setting > 2 || value < 0 || value > (setting == 2 ? 20 : 99)) {
            return BAD_VALUE;
        }
        keep(now.copy());
        int previous = now.settings[setting];
        now.settings[setting] = value;
        return previous;
    }

    private static String signs(int value) {
        StringBuilder signs = new StringBuilder();
        int ones = 0;
        for (int bit = 1; bit < 256; bit *= 2) {
            boolean one = (value & bit) != 0;
            signs.append(one ? '1' : '0');
            ones += one ? 1 : 0;
        }
        return signs.append(ones % 2).toString();
    }

    private int doWrite(int name, int under, int many, long bytes) {
        if (under != NONE && block(under) == null) {
            return NO_SUCH;
        }
        if (name < 0 || name > 99 || many < 1 || many > 7) {
            return BAD_VALUE;
        }
        if (now.blocks.size() == 16) {
            return TOO_MANY;
        }
        StringBuilder telling = new StringBuilder("0000");
        int sum = 0;
        for (int place = 0; place < many; place++) {
            int value = (int) (bytes >> 8 * place) & 255;
            sum += value;
            telling.append(signs(value));
        }
        telling.append(signs(sum % 256));
        Block block = new Block();
        block.name = name;
        block.under = under;
        block.many = many;
        block.bits = telling.toString() + telling + "00";
        for (int cell = 0; cell < block.bits.length(); cell++) {
            block.cells.add(new Cell(now.settings[0], false));
        }
        now.blocks.add(block);
        return now.blocks.size() - 1;
    }

    int write(int name, int under, int many, long bytes) {
        State before = now.copy();
        return kept(before, doWrite(name, under, many, bytes));
    }

    private int kept(State before, int answer) {
        if (answer >= 0) {
            keep(before);
        }
        return answer;
    }

    int wipeLast() {
        if (now.blocks.isEmpty()) {
            return NOT_POSSIBLE;
        }
        keep(now.copy());
        now.blocks.remove(now.blocks.size() - 1);
        return now.blocks.size();
    }

    private int doFade(int from, int to, int volume) {
        List<Cell> tape = tape();
        if (from < 0 || from >= tape.size() || to < 0 || to >= tape.size()) {
            return NO_SUCH;
        }
        if (to < from || volume < 0 || volume > 99) {
            return BAD_VALUE;
        }
        int faded = 0;
        for (Cell cell : tape.subList(from, to + 1)) {
            faded += cell.volume > volume ? 1 : 0;
            cell.volume = Math.min(cell.volume, volume);
        }
        return faded;
    }

    int fade(int from, int to, int volume) {
        State before = now.copy();
        return kept(before, doFade(from, to, volume));
    }

    private int doSpoil(int number) {
        List<Cell> tape = tape();
        if (number < 0 || number >= tape.size()) {
            return NO_SUCH;
        }
        Cell cell = tape.get(number);
        cell.bad = !cell.bad;
        return cell.bad ? 1 : 0;
    }

    int spoil(int cell) {
        State before = now.copy();
        return kept(before, doSpoil(cell));
    }

    int of(int number, int what) {
        Block block = block(number);
        if (block == null) {
            return NO_SUCH;
        }
        if (what < 0 || what > 9) {
            return BAD_VALUE;
        }
        int depth = 0;
        for (Block up = block; up.under != NONE; up = now.blocks.get(up.under)) {
            depth++;
        }
        int[] all = {block.name, block.under, block.many, first(number), block.cells.size(), block.state(0, least()),
            block.state(1, least()), (int) block.loaded(least())[0], depth, counter(first(number))};
        return all[what];
    }

    long load(int number) {
        Block block = block(number);
        return block == null ? NO_SUCH : block.loaded(least())[1];
    }

    int read(int number, int telling, int place) {
        Block block = block(number);
        if (block == null || place < 0 || place > block.many) {
            return NO_SUCH;
        }
        if (telling != 0 && telling != 1) {
            return BAD_VALUE;
        }
        return block.state(telling, least()) == 1 ? NONE : block.byteAt(telling, place, least());
    }

    int cell(int number, int what) {
        List<Cell> tape = tape();
        if (number < 0 || number >= tape.size()) {
            return NO_SUCH;
        }
        if (what < 0 || what > 5) {
            return BAD_VALUE;
        }
        int in = 0;
        while (in + 1 < now.blocks.size() && first(in + 1) <= number) {
            in++;
        }
        Block block = now.blocks.get(in);
        int at = number - first(in);
        int part = at / block.length();
        Cell cell = tape.get(number);
        boolean told = part < 2 && at % block.length() >= 4;
        boolean one = told && block.bits.charAt(at) == '1' != cell.bad;
        int[] all = {cell.volume, cell.bad ? 1 : 0, one ? 1 : 0, in, part, counter(number)};
        return all[what];
    }

    int count(int what) {
        int loaded = 0;
        int byBoth = 0;
        for (int number = 0; number < now.blocks.size(); number++) {
            long way = now.blocks.get(number).loaded(least())[0];
            loaded += way == NONE ? 0 : 1 << number;
            byBoth += way == 2 ? 1 << number : 0;
        }
        List<Cell> tape = tape();
        int silent = (int) tape.stream().filter(cell -> cell.volume < least()).count();
        int bad = (int) tape.stream().filter(cell -> cell.bad).count();
        int[] all = {now.blocks.size(), tape.size(), loaded, byBoth, silent, bad, now.settings[0], now.settings[1],
            now.settings[2], pad.length(), history.size()};
        return what < 0 || what >= all.length ? BAD_VALUE : all[what];
    }

    private boolean isReached(int number) {
        Block block = now.blocks.get(number);
        return block.loaded(least())[0] != NONE && (block.under == NONE || isReached(block.under));
    }

    int reached() {
        int set = 0;
        for (int number = 0; number < now.blocks.size(); number++) {
            set += isReached(number) ? 1 << number : 0;
        }
        return set;
    }

    int near(int counter, int rank) {
        if (rank < 0 || rank >= now.blocks.size()) {
            return NO_SUCH;
        }
        if (counter < 0 || counter > 999) {
            return BAD_VALUE;
        }
        List<Integer> order = new ArrayList<>();
        for (int number = 0; number < now.blocks.size(); number++) {
            order.add(number);
        }
        order.sort(Comparator.comparingInt(number -> Math.min(
            Math.floorMod(counter(first(number)) - counter, 1000), Math.floorMod(counter - counter(first(number)), 1000))));
        return order.get(rank);
    }

    int mostLeast(int number) {
        Block block = block(number);
        if (block == null) {
            return NO_SUCH;
        }
        int most = NONE;
        for (int least = 0; least <= 99; least++) {
            most = block.loaded(least)[0] == NONE ? most : least;
        }
        return most;
    }

    int weak(int number, int telling) {
        Block block = block(number);
        if (block == null) {
            return NO_SUCH;
        }
        if (telling != 0 && telling != 1) {
            return BAD_VALUE;
        }
        if (block.state(telling, least()) != 0) {
            return NOT_POSSIBLE;
        }
        int weak = 0;
        for (Cell cell : block.cells.subList(telling * block.length(), (telling + 1) * block.length())) {
            cell.bad = !cell.bad;
            weak += block.state(telling, least()) == 0 ? 0 : 1;
            cell.bad = !cell.bad;
        }
        return weak;
    }

    private boolean isUnder(int number, int above) {
        int under = now.blocks.get(number).under;
        return under != NONE && (under == above || isUnder(under, above));
    }

    int widest(int what) {
        if (what != 0 && what != 1) {
            return BAD_VALUE;
        }
        int best = NONE;
        int most = NONE;
        for (int number = 0; number < now.blocks.size(); number++) {
            int below = 0;
            for (int other = 0; other < now.blocks.size(); other++) {
                below += isReached(other) && isUnder(other, number) ? 1 : 0;
            }
            if (isReached(number) && below > most) {
                best = number;
                most = below;
            }
        }
        return what == 0 ? best : most;
    }

    int put(long characters) {
        String added = "";
        boolean ended = false;
        for (int place = 0; place < 8; place++) {
            int code = (int) (characters >> 8 * place) & 255;
            if (code == 0) {
                ended = true;
            } else if (ended || code < 33 || code > 126) {
                return BAD_VALUE;
            } else {
                added = (char) code + added;
            }
        }
        if (added.isEmpty()) {
            return BAD_VALUE;
        }
        if (pad.length() + added.length() > 80) {
            return TOO_MANY;
        }
        pad += added;
        return pad.length();
    }

    int wipe() {
        int length = pad.length();
        pad = "";
        return length;
    }

    private static boolean canBegin(String text) {
        Matcher matcher = TEXT.matcher(text);
        return matcher.matches() || matcher.hitEnd();
    }

    int fault() {
        for (int length = 1; length <= pad.length(); length++) {
            if (!canBegin(pad.substring(0, length))) {
                return length - 1;
            }
        }
        return TEXT.matcher(pad).matches() ? NONE : pad.length();
    }

    private static int[] numbers(String text) {
        String[] parts = text.split("[^0-9]+");
        int[] numbers = new int[parts.length];
        for (int part = 0; part < parts.length; part++) {
            numbers[part] = Integer.parseInt(parts[part]);
        }
        return numbers;
    }

    private int doOrder(String order) {
        int[] numbers = numbers(order.substring(1));
        if (order.charAt(0) == 'x') {
            return doSpoil(numbers[0]);
        }
        if (order.charAt(0) == 'f') {
            return doFade(numbers[0], numbers[1], numbers[2]);
        }
        int[] head = numbers(order.substring(1, order.indexOf(':')));
        int[] values = numbers(order.substring(order.indexOf(':') + 1));
        long bytes = 0;
        for (int place = 0; place < values.length; place++) {
            if (place >= 7 || values[place] > 255) {
                return BAD_VALUE;
            }
            bytes += (long) values[place] << 8 * place;
        }
        return doWrite(head[0], head.length == 2 ? head[1] : NONE, values.length, bytes);
    }

    int carryOut() {
        if (fault() != NONE) {
            return BAD_TEXT;
        }
        keep(now.copy());
        int done = 0;
        for (String order : pad.split(";")) {
            if (doOrder(order) < 0) {
                break;
            }
            done++;
        }
        pad = "";
        return done;
    }

    int undo() {
        if (history.isEmpty()) {
            return NOT_POSSIBLE;
        }
        now = history.removeLast();
        return history.size();
    }

    int save(int slot) {
        if (slot != 0 && slot != 1) {
            return BAD_VALUE;
        }
        slots[slot] = now.copy();
        return now.blocks.size();
    }

    int restore(int slot) {
        if (slot != 0 && slot != 1) {
            return BAD_VALUE;
        }
        if (slots[slot] == null) {
            return NOT_POSSIBLE;
        }
        keep(now);
        now = slots[slot].copy();
        return now.blocks.size();
    }
}
