import java.util.ArrayDeque;
import java.util.ArrayList;
import java.util.Arrays;
import java.util.Comparator;
import java.util.List;

/**
 * A second program of the same document, slow and plain: nothing is kept from one question to the next,
 * every set of pins is tried with a flow of its own, and each state is a copy.
 */
final class Model {
    private static final class State {
        int rows = 3;
        int columns = 3;
        int channel = 1;
        int tile = 2;
        int[][] kind = new int[6][6];
        int[][] partner = new int[6][6];
        boolean[][] selected = new boolean[6][6];

        State copy() {
            State other = new State();
            other.rows = rows;
            other.columns = columns;
            other.channel = channel;
            other.tile = tile;
            for (int i = 0; i < 6; i++) {
                other.kind[i] = kind[i].clone();
                other.partner[i] = partner[i].clone();
                other.selected[i] = selected[i].clone();
            }
            return other;
        }
    }

    private State now = new State();
    private final ArrayDeque<State> earlier = new ArrayDeque<>();
    private final StringBuilder text = new StringBuilder();

    Model() {
        for (int i = 0; i < 6; i++) {
            Arrays.fill(now.partner[i], -1);
            Arrays.fill(now.kind[i], i < 3 ? 1 : 0);
            if (i < 3) {
                Arrays.fill(now.kind[i], 3, 6, 0);
            }
        }
    }

    private void edit() {
        earlier.addLast(now.copy());
        if (earlier.size() > 8) {
            earlier.removeFirst();
        }
    }

    private boolean no(int row, int column) {
        return row < 0 || column < 0 || row >= now.rows || column >= now.columns;
    }

    int appendCharacter(int character) {
        if (character < 0 || character > 255) {
            return -1;
        }
        if (text.length() == 60) {
            return -3;
        }
        text.append((char) character);
        return text.length();
    }

    int clearText() {
        int length = text.length();
        text.setLength(0);
        return length;
    }

    /** Whether some grid begins with this text, spaces left out. */
    private static boolean beginsSomeGrid(String prefix) {
        String[] parts = (prefix + "|").split(";");
        parts[parts.length - 1] = parts[parts.length - 1].replace("|", "");
        int last = parts.length - 1;
        for (int i = 0; i <= last; i++) {
            boolean whole = i < last;
            int width = last == 0 ? 6 : parts[0].length();
            if (!parts[i].matches("[sp.]*") || parts[i].length() > width || parts[i].length() > 6) {
                return false;
            }
            if (whole && (parts[i].length() != width || parts[i].isEmpty())) {
                return false;
            }
        }
        return last < 6 || last == 6 && parts[6].isEmpty();
    }

    int loadGrid() {
        String bare = "";
        for (int i = 0; i < text.length(); i++) {
            if (text.charAt(i) != ' ') {
                bare += text.charAt(i);
                if (!beginsSomeGrid(bare)) {
                    return -10 - i;
                }
            }
        }
        if (!bare.endsWith(";")) {
            return -10 - text.length();
        }
        edit();
        String[] lines = bare.split(";");
        State fresh = new State();
        fresh.rows = lines.length;
        fresh.columns = lines[0].length();
        fresh.channel = now.channel;
        fresh.tile = now.tile;
        for (int i = 0; i < 6; i++) {
            Arrays.fill(fresh.partner[i], -1);
            for (int j = 0; i < lines.length && j < lines[i].length(); j++) {
                fresh.kind[i][j] = ".sp".indexOf(lines[i].charAt(j));
            }
        }
        now = fresh;
        text.setLength(0);
        return signalCount();
    }

    int setKind(int row, int column, int kind) {
        if (no(row, column) || kind < 0 || kind > 2) {
            return -1;
        }
        int before = now.kind[row][column];
        if (before == kind) {
            return -2;
        }
        edit();
        if (before == 1) {
            part(row, column);
            now.selected[row][column] = false;
        }
        now.kind[row][column] = kind;
        return before;
    }

    private void part(int row, int column) {
        int other = now.partner[row][column];
        if (other >= 0) {
            now.partner[other / 10][other % 10] = -1;
            now.partner[row][column] = -1;
        }
    }

    int setChannelCapacity(int capacity) {
        if (capacity < 0 || capacity > 5) {
            return -1;
        }
        edit();
        int before = now.channel;
        now.channel = capacity;
        return before;
    }

    int setTileCapacity(int capacity) {
        if (capacity < 0 || capacity > 9) {
            return -1;
        }
        edit();
        int before = now.tile;
        now.tile = capacity;
        return before;
    }

    int rows() {
        return now.rows;
    }

    int columns() {
        return now.columns;
    }

    int kindAt(int row, int column) {
        return no(row, column) ? -1 : now.kind[row][column];
    }

    int signalCount() {
        return signals().size();
    }

    private List<Integer> signals() {
        List<Integer> all = new ArrayList<>();
        for (int row = 0; row < now.rows; row++) {
            for (int column = 0; column < now.columns; column++) {
                if (now.kind[row][column] == 1) {
                    all.add(10 * row + column);
                }
            }
        }
        return all;
    }

    private int pairs() {
        int ends = 0;
        for (int pin : signals()) {
            ends += now.partner[pin / 10][pin % 10] >= 0 ? 1 : 0;
        }
        return ends / 2;
    }

    int makePair(int row, int column, int otherRow, int otherColumn) {
        if (no(row, column) || no(otherRow, otherColumn)) {
            return -1;
        }
        boolean sameRow = row == otherRow && (column == otherColumn + 1 || column == otherColumn - 1);
        boolean sameColumn = column == otherColumn && (row == otherRow + 1 || row == otherRow - 1);
        if (!sameRow && !sameColumn) {
            return -1;
        }
        if (now.kind[row][column] != 1 || now.kind[otherRow][otherColumn] != 1
                || now.partner[row][column] >= 0 || now.partner[otherRow][otherColumn] >= 0) {
            return -2;
        }
        edit();
        now.partner[row][column] = 10 * otherRow + otherColumn;
        now.partner[otherRow][otherColumn] = 10 * row + column;
        return pairs();
    }

    int breakPair(int row, int column) {
        if (no(row, column)) {
            return -1;
        }
        if (now.partner[row][column] < 0) {
            return -2;
        }
        edit();
        part(row, column);
        return pairs();
    }

    int partnerOf(int row, int column) {
        if (no(row, column)) {
            return -1;
        }
        return now.partner[row][column] < 0 ? -9 : now.partner[row][column];
    }

    private List<Integer> selection() {
        List<Integer> pins = signals();
        pins.removeIf(pin -> !now.selected[pin / 10][pin % 10]);
        return pins;
    }

    int select(int row, int column) {
        if (no(row, column)) {
            return -1;
        }
        if (now.kind[row][column] != 1 || now.selected[row][column]) {
            return -2;
        }
        edit();
        now.selected[row][column] = true;
        return selection().size();
    }

    int deselect(int row, int column) {
        if (no(row, column)) {
            return -1;
        }
        if (!now.selected[row][column]) {
            return -2;
        }
        edit();
        now.selected[row][column] = false;
        return selection().size();
    }

    int clearSelection() {
        int size = selection().size();
        if (size == 0) {
            return -2;
        }
        edit();
        now.selected = new boolean[6][6];
        return size;
    }

    /** A flow by depth first search over a matrix of capacities: 0 source, 1 sink, pins, entrances, exits. */
    private final class Flow {
        final int size = 2 + 36 + 49 + 49;
        final int[][] capacity = new int[size][size];
        final int[][] beside = new int[size][];
        boolean[] seen;
        int value;

        Flow(List<Integer> pins, boolean[][] open, int wires) {
            for (int pin : pins) {
                int row = pin / 10;
                int column = pin % 10;
                int node = 2 + 6 * row + column;
                capacity[0][node] = wires;
                for (int i = 0; i < 4; i++) {
                    capacity[node][in(row + i / 2, column + i % 2)] = wires;
                }
            }
            for (int row = 0; row <= now.rows; row++) {
                for (int column = 0; column <= now.columns; column++) {
                    capacity[in(row, column)][out(row, column)] = now.tile;
                    if (row % now.rows == 0 || column % now.columns == 0) {
                        capacity[out(row, column)][1] = 100000;
                    }
                }
            }
            for (int[] c : channels()) {
                int room = now.channel + (open[c[0]][c[1]] ? 1 : 0) + (open[c[2]][c[3]] ? 1 : 0);
                capacity[out(c[4], c[5])][in(c[6], c[7])] = room;
                capacity[out(c[6], c[7])][in(c[4], c[5])] = room;
            }
            for (int i = 0; i < size; i++) {
                beside[i] = neighbours(i);
            }
            while (true) {
                seen = new boolean[size];
                int amount = push(0, 100000);
                if (amount == 0) {
                    break;
                }
                value += amount;
            }
        }

        private int[] neighbours(int node) {
            int[] found = new int[size];
            int count = 0;
            for (int i = 0; i < size; i++) {
                if (capacity[node][i] > 0 || capacity[i][node] > 0) {
                    found[count++] = i;
                }
            }
            return Arrays.copyOf(found, count);
        }

        private int push(int node, int amount) {
            if (node == 1) {
                return amount;
            }
            seen[node] = true;
            for (int next : beside[node]) {
                if (!seen[next] && capacity[node][next] > 0) {
                    int pushed = push(next, Math.min(amount, capacity[node][next]));
                    if (pushed > 0) {
                        capacity[node][next] -= pushed;
                        capacity[next][node] += pushed;
                        return pushed;
                    }
                }
            }
            return 0;
        }

        int in(int row, int column) {
            return 38 + 7 * row + column;
        }

        int out(int row, int column) {
            return in(row, column) + 49;
        }
    }

    /** Each as two positions and the two tiles that both of them touch. */
    private List<int[]> channels() {
        List<int[]> all = new ArrayList<>();
        for (int r = 0; r < now.rows; r++) {
            for (int c = 0; c < now.columns; c++) {
                if (c + 1 < now.columns) {
                    all.add(new int[] {r, c, r, c + 1, r, c + 1, r + 1, c + 1});
                }
                if (r + 1 < now.rows) {
                    all.add(new int[] {r, c, r + 1, c, r + 1, c, r + 1, c + 1});
                }
            }
        }
        return all;
    }

    private boolean[][] openFor(boolean signalsToo) {
        boolean[][] open = new boolean[6][6];
        for (int i = 0; i < 36; i++) {
            int kind = now.kind[i / 6][i % 6];
            open[i / 6][i % 6] = kind == 0 || signalsToo && kind == 1;
        }
        return open;
    }

    private Flow selectionFlow() {
        return new Flow(selection(), openFor(false), 1);
    }

    int escapeCount() {
        return selectionFlow().value;
    }

    int tileSide(int row, int column) {
        if (row < 0 || column < 0 || row > now.rows || column > now.columns) {
            return -1;
        }
        Flow flow = selectionFlow();
        if (flow.seen[flow.in(row, column)]) {
            return flow.seen[flow.out(row, column)] ? 0 : 1;
        }
        return 2;
    }

    int cutChannels() {
        Flow flow = selectionFlow();
        int cut = 0;
        for (int[] c : channels()) {
            boolean there = flow.seen[flow.out(c[4], c[5])] && !flow.seen[flow.in(c[6], c[7])];
            boolean back = flow.seen[flow.out(c[6], c[7])] && !flow.seen[flow.in(c[4], c[5])];
            cut += there || back ? 1 : 0;
        }
        return cut;
    }

    private int ring(int pin) {
        int row = pin / 10;
        int column = pin % 10;
        int[] all = {row, column, now.rows - 1 - row, now.columns - 1 - column};
        return Arrays.stream(all).min().getAsInt();
    }

    private Comparator<Integer> order(int strategy) {
        Comparator<Integer> byRows = Comparator.naturalOrder();
        switch (strategy) {
            case 0:
                return byRows;
            case 1:
                return Comparator.comparing((Integer pin) -> pin % 10).thenComparing(byRows);
            case 2:
                return Comparator.comparing(this::ring).thenComparing(byRows);
            default:
                return Comparator.comparing((Integer pin) -> -ring(pin)).thenComparing(byRows);
        }
    }

    /** The layers from the first on, and behind them the pins that are on none. */
    private List<List<Integer>> layering(int strategy) {
        List<Integer> left = signals();
        left.sort(order(strategy));
        boolean[][] open = openFor(false);
        List<List<Integer>> layers = new ArrayList<>();
        while (!left.isEmpty()) {
            List<Integer> layer = new ArrayList<>();
            for (int pin : left) {
                int partner = now.partner[pin / 10][pin % 10];
                if (layer.contains(pin)) {
                    continue;
                }
                List<Integer> tried = new ArrayList<>(layer);
                tried.add(pin);
                if (partner >= 0) {
                    tried.add(partner);
                }
                if (new Flow(tried, open, 1).value == tried.size()) {
                    layer = tried;
                }
            }
            if (layer.isEmpty()) {
                break;
            }
            layers.add(layer);
            left.removeAll(layer);
            for (int pin : layer) {
                open[pin / 10][pin % 10] = true;
            }
        }
        layers.add(left);
        return layers;
    }

    private static boolean isWhole(List<List<Integer>> layers) {
        return layers.get(layers.size() - 1).isEmpty();
    }

    int layerCount(int strategy) {
        if (strategy < 0 || strategy > 3) {
            return -1;
        }
        List<List<Integer>> layers = layering(strategy);
        return isWhole(layers) ? layers.size() - 1 : -9;
    }

    int layerOf(int strategy, int row, int column) {
        if (strategy < 0 || strategy > 3 || no(row, column)) {
            return -1;
        }
        List<List<Integer>> layers = layering(strategy);
        for (int i = 0; i + 1 < layers.size(); i++) {
            if (layers.get(i).contains(10 * row + column)) {
                return i + 1;
            }
        }
        return -9;
    }

    int layerLoad(int strategy, int layer) {
        if (strategy < 0 || strategy > 3 || layer < 1) {
            return -1;
        }
        List<List<Integer>> layers = layering(strategy);
        return layer < layers.size() ? layers.get(layer - 1).size() : 0;
    }

    int bestStrategy() {
        int best = -9;
        int fewest = 1000;
        for (int strategy = 3; strategy >= 0; strategy--) {
            int count = layerCount(strategy);
            if (count >= 0 && count <= fewest) {
                best = strategy;
                fewest = count;
            }
        }
        return best;
    }

    int throughput() {
        return new Flow(signals(), openFor(true), 100000).value;
    }

    int lowerBound() {
        int signals = signalCount();
        if (signals == 0) {
            return 0;
        }
        int wires = throughput();
        return wires == 0 ? -9 : (int) Math.ceil((double) signals / wires);
    }

    int undo() {
        if (earlier.isEmpty()) {
            return -2;
        }
        now = earlier.removeLast();
        return earlier.size();
    }
}
