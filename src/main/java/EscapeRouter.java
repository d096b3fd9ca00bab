/**
 * Decides which pins of a ball grid array can be led to the rim on one layer, shows the bottleneck,
 * and distributes the pins over layers. The promises stand in DOC.md.
 */
public final class EscapeRouter {
    public static final int INVALID_ARGUMENT = -1;
    public static final int INVALID_STATE = -2;
    public static final int LIMIT_REACHED = -3;
    public static final int NONE = -9;
    public static final int NONE_THERE = 0, SIGNAL = 1, POWER = 2;

    private static final int LONGEST_SIDE = 6;
    private static final int POSITIONS = LONGEST_SIDE * LONGEST_SIDE;
    private static final int TILES_IN_ROW = LONGEST_SIDE + 1;
    private static final int TILES = TILES_IN_ROW * TILES_IN_ROW;
    private static final int NOWHERE = -1;

    private static final int HIGHEST_CHANNEL_CAPACITY = 5;
    private static final int HIGHEST_TILE_CAPACITY = 9;
    /** Far above all that can ever flow, and far below where sums of it would wrap around. */
    private static final int UNLIMITED = 1000000;

    private static final int ROWS_FIRST = 0;
    private static final int COLUMNS_FIRST = 1;
    private static final int OUTSIDE_IN = 2;
    private static final int STRATEGIES = 4;

    private static final int NEAR = 0;
    private static final int CUT = 1;
    private static final int FAR = 2;

    private static final int TEXT_ERROR_BASE = -10;

    private final Board board;
    private final History history;
    private final GridText text;
    /** Kept apart from the other network, because its near side is asked for tile by tile. */
    private final FlowNetwork selectionNetwork;
    private final FlowNetwork layerNetwork;
    private final Layering[] layerings;
    private final boolean[] open;
    private boolean selectionSolved;
    private int escaping;
    private int knownThroughput;

    public EscapeRouter() {
        board = new Board();
        history = new History();
        text = new GridText();
        selectionNetwork = new FlowNetwork();
        layerNetwork = new FlowNetwork();
        layerings = new Layering[STRATEGIES];
        for (int strategy = 0; strategy < STRATEGIES; strategy++) {
            layerings[strategy] = new Layering(strategy);
        }
        open = new boolean[POSITIONS];
        selectionSolved = false;
        escaping = 0;
        knownThroughput = NONE;
    }

    public int appendCharacter(int character) {
        if (character < 0 || character > 255) {
            return INVALID_ARGUMENT;
        }
        return text.add(character) ? text.length : LIMIT_REACHED;
    }

    public int clearText() {
        int before = text.length;
        text.length = 0;
        return before;
    }

    public int loadGrid() {
        int errorOffset = text.read();
        if (errorOffset != NOWHERE) {
            return TEXT_ERROR_BASE - errorOffset;
        }
        beginEdit();
        board.replaceGrid(text);
        text.length = 0;
        return board.countSignals();
    }

    public int setKind(int row, int column, int kind) {
        if (!board.has(row, column) || kind < NONE_THERE || kind > POWER) {
            return INVALID_ARGUMENT;
        }
        int place = placeOf(row, column);
        int before = board.kinds[place];
        if (before == kind) {
            return INVALID_STATE;
        }
        beginEdit();
        board.separate(place);
        board.selected[place] = false;
        board.kinds[place] = kind;
        return before;
    }

    public int setChannelCapacity(int capacity) {
        if (capacity < 0 || capacity > HIGHEST_CHANNEL_CAPACITY) {
            return INVALID_ARGUMENT;
        }
        beginEdit();
        int before = board.channelCapacity;
        board.channelCapacity = capacity;
        return before;
    }

    public int setTileCapacity(int capacity) {
        if (capacity < 0 || capacity > HIGHEST_TILE_CAPACITY) {
            return INVALID_ARGUMENT;
        }
        beginEdit();
        int before = board.tileCapacity;
        board.tileCapacity = capacity;
        return before;
    }

    public int rows() {
        return board.rowCount;
    }

    public int columns() {
        return board.columnCount;
    }

    public int kindAt(int row, int column) {
        return board.has(row, column) ? board.kinds[placeOf(row, column)] : INVALID_ARGUMENT;
    }

    public int signalCount() {
        return board.countSignals();
    }

    public int makePair(int row, int column, int otherRow, int otherColumn) {
        if (!board.has(row, column) || !board.has(otherRow, otherColumn)) {
            return INVALID_ARGUMENT;
        }
        if (Math.abs(row - otherRow) + Math.abs(column - otherColumn) != 1) {
            return INVALID_ARGUMENT;
        }
        int place = placeOf(row, column);
        int other = placeOf(otherRow, otherColumn);
        if (!board.isFreeForPair(place) || !board.isFreeForPair(other)) {
            return INVALID_STATE;
        }
        beginEdit();
        board.partners[place] = other;
        board.partners[other] = place;
        return board.countPairs();
    }

    public int breakPair(int row, int column) {
        if (!board.has(row, column)) {
            return INVALID_ARGUMENT;
        }
        int place = placeOf(row, column);
        if (board.partners[place] == NOWHERE) {
            return INVALID_STATE;
        }
        beginEdit();
        board.separate(place);
        return board.countPairs();
    }

    public int partnerOf(int row, int column) {
        if (!board.has(row, column)) {
            return INVALID_ARGUMENT;
        }
        int partner = board.partners[placeOf(row, column)];
        if (partner == NOWHERE) {
            return NONE;
        }
        return 10 * (partner / LONGEST_SIDE) + partner % LONGEST_SIDE;
    }

    public int select(int row, int column) {
        if (!board.has(row, column)) {
            return INVALID_ARGUMENT;
        }
        int place = placeOf(row, column);
        if (board.kinds[place] != SIGNAL || board.selected[place]) {
            return INVALID_STATE;
        }
        beginEdit();
        board.selected[place] = true;
        return board.countSelected();
    }

    public int deselect(int row, int column) {
        if (!board.has(row, column)) {
            return INVALID_ARGUMENT;
        }
        int place = placeOf(row, column);
        if (!board.selected[place]) {
            return INVALID_STATE;
        }
        beginEdit();
        board.selected[place] = false;
        return board.countSelected();
    }

    public int clearSelection() {
        int before = board.countSelected();
        if (before == 0) {
            return INVALID_STATE;
        }
        beginEdit();
        for (int place = 0; place < POSITIONS; place++) {
            board.selected[place] = false;
        }
        return before;
    }

    public int escapeCount() {
        solveSelection();
        return escaping;
    }

    public int tileSide(int tileRow, int tileColumn) {
        if (tileRow < 0 || tileRow > board.rowCount || tileColumn < 0 || tileColumn > board.columnCount) {
            return INVALID_ARGUMENT;
        }
        solveSelection();
        return selectionNetwork.sideOf(tileAt(tileRow, tileColumn));
    }

    public int cutChannels() {
        solveSelection();
        return selectionNetwork.countCutChannels();
    }

    public int layerCount(int strategy) {
        if (!isStrategy(strategy)) {
            return INVALID_ARGUMENT;
        }
        Layering layering = layerings[strategy].refresh(board, layerNetwork);
        return layering.complete ? layering.layers : NONE;
    }

    public int layerOf(int strategy, int row, int column) {
        if (!isStrategy(strategy) || !board.has(row, column)) {
            return INVALID_ARGUMENT;
        }
        int layer = layerings[strategy].refresh(board, layerNetwork).layerAt[placeOf(row, column)];
        return layer == Layering.NOT_YET ? NONE : layer;
    }

    public int layerLoad(int strategy, int layer) {
        if (!isStrategy(strategy) || layer < 1) {
            return INVALID_ARGUMENT;
        }
        return layerings[strategy].refresh(board, layerNetwork).countOn(layer);
    }

    public int bestStrategy() {
        int best = NONE;
        int fewest = POSITIONS + 1;
        for (int strategy = 0; strategy < STRATEGIES; strategy++) {
            Layering layering = layerings[strategy].refresh(board, layerNetwork);
            if (layering.complete && layering.layers < fewest) {
                best = strategy;
                fewest = layering.layers;
            }
        }
        return best;
    }

    public int throughput() {
        if (knownThroughput == NONE) {
            for (int place = 0; place < POSITIONS; place++) {
                open[place] = board.kinds[place] != POWER;
            }
            layerNetwork.build(board, open, UNLIMITED);
            for (int place = 0; place < POSITIONS; place++) {
                if (board.kinds[place] == SIGNAL) {
                    layerNetwork.supply(place, UNLIMITED);
                }
            }
            knownThroughput = layerNetwork.pushAll();
        }
        return knownThroughput;
    }

    public int lowerBound() {
        int signals = board.countSignals();
        if (signals == 0) {
            return 0;
        }
        int wires = throughput();
        if (wires <= 0) {
            return NONE;
        }
        return (signals + wires - 1) / wires;
    }

    public int undo() {
        if (history.count == 0) {
            return INVALID_STATE;
        }
        history.giveBack(board);
        forgetResults();
        return history.count;
    }

    private static int placeOf(int row, int column) {
        return row * LONGEST_SIDE + column;
    }

    private static int tileAt(int tileRow, int tileColumn) {
        return tileRow * TILES_IN_ROW + tileColumn;
    }

    private static boolean isStrategy(int strategy) {
        return strategy >= 0 && strategy < STRATEGIES;
    }

    /** To be called by every edit, after its last test and before its first change. */
    private void beginEdit() {
        history.keep(board);
        forgetResults();
    }

    private void forgetResults() {
        selectionSolved = false;
        knownThroughput = NONE;
        for (int strategy = 0; strategy < STRATEGIES; strategy++) {
            layerings[strategy].fresh = false;
        }
    }

    private void solveSelection() {
        if (selectionSolved) {
            return;
        }
        for (int place = 0; place < POSITIONS; place++) {
            open[place] = board.kinds[place] == NONE_THERE;
        }
        selectionNetwork.build(board, open, 1);
        for (int place = 0; place < POSITIONS; place++) {
            if (board.selected[place]) {
                selectionNetwork.supply(place, 1);
            }
        }
        escaping = selectionNetwork.pushAll();
        selectionSolved = true;
    }

    /** All that undo restores: the grid, the capacities, the pairs and the selection. */
    private static final class Board {
        int rowCount;
        int columnCount;
        int channelCapacity;
        int tileCapacity;
        final int[] kinds;
        final int[] partners;
        final boolean[] selected;

        Board() {
            rowCount = 3;
            columnCount = 3;
            channelCapacity = 1;
            tileCapacity = 2;
            kinds = new int[POSITIONS];
            partners = new int[POSITIONS];
            selected = new boolean[POSITIONS];
            for (int place = 0; place < POSITIONS; place++) {
                kinds[place] = NONE_THERE;
                partners[place] = NOWHERE;
            }
            for (int row = 0; row < rowCount; row++) {
                for (int column = 0; column < columnCount; column++) {
                    kinds[placeOf(row, column)] = SIGNAL;
                }
            }
        }

        void copyFrom(Board other) {
            rowCount = other.rowCount;
            columnCount = other.columnCount;
            channelCapacity = other.channelCapacity;
            tileCapacity = other.tileCapacity;
            System.arraycopy(other.kinds, 0, kinds, 0, POSITIONS);
            System.arraycopy(other.partners, 0, partners, 0, POSITIONS);
            // LANGUAGE.md allows arraycopy for arrays of numbers alone.
            for (int place = 0; place < POSITIONS; place++) {
                selected[place] = other.selected[place];
            }
        }

        /** Places outside the grid become NONE_THERE, so that counts may go over all places. */
        void replaceGrid(GridText text) {
            rowCount = text.rowCount;
            columnCount = text.columnCount;
            for (int row = 0; row < LONGEST_SIDE; row++) {
                for (int column = 0; column < LONGEST_SIDE; column++) {
                    int place = placeOf(row, column);
                    kinds[place] = has(row, column) ? text.kinds[place] : NONE_THERE;
                    partners[place] = NOWHERE;
                    selected[place] = false;
                }
            }
        }

        boolean has(int row, int column) {
            return row >= 0 && row < rowCount && column >= 0 && column < columnCount;
        }

        boolean isFreeForPair(int place) {
            return kinds[place] == SIGNAL && partners[place] == NOWHERE;
        }

        void separate(int place) {
            int partner = partners[place];
            if (partner != NOWHERE) {
                partners[partner] = NOWHERE;
                partners[place] = NOWHERE;
            }
        }

        int countSignals() {
            int count = 0;
            for (int place = 0; place < POSITIONS; place++) {
                if (kinds[place] == SIGNAL) {
                    count++;
                }
            }
            return count;
        }

        int countPairs() {
            int count = 0;
            for (int place = 0; place < POSITIONS; place++) {
                if (partners[place] > place) {
                    count++;
                }
            }
            return count;
        }

        int countSelected() {
            int count = 0;
            for (int place = 0; place < POSITIONS; place++) {
                if (selected[place]) {
                    count++;
                }
            }
            return count;
        }
    }

    /** The boards as they were before the latest edits, the oldest first. */
    private static final class History {
        private static final int MOST_KEPT = 8;

        private final Board[] boards;
        int count;

        History() {
            boards = new Board[MOST_KEPT];
            for (int i = 0; i < MOST_KEPT; i++) {
                boards[i] = new Board();
            }
            count = 0;
        }

        void keep(Board board) {
            if (count == MOST_KEPT) {
                dropOldest();
            }
            boards[count].copyFrom(board);
            count++;
        }

        /** The dropped board goes to the end, so that no new one has to be made. */
        private void dropOldest() {
            Board oldest = boards[0];
            for (int i = 1; i < MOST_KEPT; i++) {
                boards[i - 1] = boards[i];
            }
            boards[MOST_KEPT - 1] = oldest;
            count = MOST_KEPT - 1;
        }

        void giveBack(Board board) {
            if (count > 0) {
                count--;
                board.copyFrom(boards[count]);
            }
        }
    }

    /** The text buffer, and the grid that was read from it. */
    private static final class GridText {
        private static final int LONGEST_TEXT = 60;
        private static final int SPACE = ' ';
        private static final int ROW_END = ';';

        private final int[] characters;
        int length;
        int rowCount;
        int columnCount;
        final int[] kinds;

        GridText() {
            characters = new int[LONGEST_TEXT];
            length = 0;
            rowCount = 0;
            columnCount = 0;
            kinds = new int[POSITIONS];
        }

        boolean add(int character) {
            if (length >= LONGEST_TEXT) {
                return false;
            }
            characters[length] = character;
            length++;
            return true;
        }

        /** Answers the error offset, or NOWHERE if rowCount, columnCount and kinds now hold a grid. */
        int read() {
            rowCount = 0;
            columnCount = LONGEST_SIDE;
            int inRow = 0;
            for (int offset = 0; offset < length; offset++) {
                int character = characters[offset];
                if (character == SPACE) {
                    continue;
                }
                if (!isAllowed(character, inRow)) {
                    return offset;
                }
                if (character == ROW_END) {
                    columnCount = inRow;
                    rowCount++;
                    inRow = 0;
                } else {
                    kinds[placeOf(rowCount, inRow)] = kindOf(character);
                    inRow++;
                }
            }
            return rowCount == 0 || inRow > 0 ? length : NOWHERE;
        }

        private boolean isAllowed(int character, int inRow) {
            if (rowCount >= LONGEST_SIDE) {
                return false;
            }
            if (character == ROW_END) {
                return rowCount == 0 ? inRow > 0 : inRow == columnCount;
            }
            return kindOf(character) != NOWHERE && inRow < columnCount;
        }

        private static int kindOf(int character) {
            switch (character) {
                case 's':
                    return SIGNAL;
                case 'p':
                    return POWER;
                case '.':
                    return NONE_THERE;
                default:
                    return NOWHERE;
            }
        }
    }

    /**
     * The flow network of one layer. Every edge has the reverse edge beside it, at its number with
     * the last bit turned over; the edge from the source to a pin has twice the number of its place.
     */
    private static final class FlowNetwork {
        private static final int SOURCE = 0;
        private static final int SINK = 1;
        private static final int FIRST_PIN = 2;
        private static final int FIRST_ENTRANCE = FIRST_PIN + POSITIONS;
        private static final int FIRST_EXIT = FIRST_ENTRANCE + TILES;
        private static final int NODES = FIRST_EXIT + TILES;

        private static final int CHANNELS = 2 * LONGEST_SIDE * (LONGEST_SIDE - 1);
        private static final int RIM_TILES = 4 * LONGEST_SIDE;
        private static final int EDGES = 2 * (POSITIONS + 4 * POSITIONS + TILES + 2 * CHANNELS + RIM_TILES);
        private static final int NO_EDGE = -1;
        /** Above the wires that all rim tiles together can hold. */
        private static final int MOST_PUSHES = RIM_TILES * HIGHEST_TILE_CAPACITY + 1;

        private final int[] firstEdge;
        private final int[] nextEdge;
        private final int[] target;
        private final int[] residual;
        private final int[] keptResidual;
        private final int[] reachedIn;
        private final int[] reachedBy;
        private final int[] queue;
        private int edgeCount;
        private int firstChannelEdge;
        /** A node is marked by the number of the search, so that no search has to wipe old marks. */
        private int search;

        FlowNetwork() {
            firstEdge = new int[NODES];
            nextEdge = new int[EDGES];
            target = new int[EDGES];
            residual = new int[EDGES];
            keptResidual = new int[EDGES];
            reachedIn = new int[NODES];
            reachedBy = new int[NODES];
            queue = new int[NODES];
            edgeCount = 0;
            firstChannelEdge = 0;
            search = 0;
        }

        /** Builds the network without any flow, and without supply at the pins. */
        void build(Board board, boolean[] open, int wiresFromPinToTile) {
            edgeCount = 0;
            for (int node = 0; node < NODES; node++) {
                firstEdge[node] = NO_EDGE;
            }
            // These come first: supply() relies on their numbers.
            for (int place = 0; place < POSITIONS; place++) {
                connect(SOURCE, FIRST_PIN + place, 0);
            }
            connectPins(board, wiresFromPinToTile);
            connectTiles(board);
            // These come last, four edges for each channel: countCutChannels() goes over them.
            firstChannelEdge = edgeCount;
            connectChannels(board, open);
        }

        private void connectPins(Board board, int wires) {
            for (int row = 0; row < board.rowCount; row++) {
                for (int column = 0; column < board.columnCount; column++) {
                    int place = placeOf(row, column);
                    if (board.kinds[place] == SIGNAL) {
                        int pin = FIRST_PIN + place;
                        connect(pin, FIRST_ENTRANCE + tileAt(row, column), wires);
                        connect(pin, FIRST_ENTRANCE + tileAt(row, column + 1), wires);
                        connect(pin, FIRST_ENTRANCE + tileAt(row + 1, column), wires);
                        connect(pin, FIRST_ENTRANCE + tileAt(row + 1, column + 1), wires);
                    }
                }
            }
        }

        private void connectTiles(Board board) {
            for (int row = 0; row <= board.rowCount; row++) {
                for (int column = 0; column <= board.columnCount; column++) {
                    int tile = tileAt(row, column);
                    connect(FIRST_ENTRANCE + tile, FIRST_EXIT + tile, board.tileCapacity);
                    if (row == 0 || row == board.rowCount || column == 0 || column == board.columnCount) {
                        connect(FIRST_EXIT + tile, SINK, UNLIMITED);
                    }
                }
            }
        }

        private void connectChannels(Board board, boolean[] open) {
            for (int row = 0; row < board.rowCount; row++) {
                for (int column = 0; column < board.columnCount; column++) {
                    int place = placeOf(row, column);
                    int innerTile = tileAt(row + 1, column + 1);
                    int capacity = board.channelCapacity + (open[place] ? 1 : 0);
                    if (column + 1 < board.columnCount) {
                        int more = open[placeOf(row, column + 1)] ? 1 : 0;
                        connectBothWays(tileAt(row, column + 1), innerTile, capacity + more);
                    }
                    if (row + 1 < board.rowCount) {
                        int more = open[placeOf(row + 1, column)] ? 1 : 0;
                        connectBothWays(tileAt(row + 1, column), innerTile, capacity + more);
                    }
                }
            }
        }

        private void connectBothWays(int tile, int other, int capacity) {
            connect(FIRST_EXIT + tile, FIRST_ENTRANCE + other, capacity);
            connect(FIRST_EXIT + other, FIRST_ENTRANCE + tile, capacity);
        }

        private void connect(int from, int to, int capacity) {
            int edge = edgeCount;
            int reverse = edge + 1;
            if (reverse >= EDGES) {
                return;
            }
            target[edge] = to;
            residual[edge] = capacity;
            nextEdge[edge] = firstEdge[from];
            firstEdge[from] = edge;
            target[reverse] = from;
            residual[reverse] = 0;
            nextEdge[reverse] = firstEdge[to];
            firstEdge[to] = reverse;
            edgeCount += 2;
        }

        /** To be called once for a pin after the network was built. */
        void supply(int place, int wires) {
            residual[2 * place] = wires;
        }

        void keepFlow() {
            System.arraycopy(residual, 0, keptResidual, 0, EDGES);
        }

        void giveFlowBack() {
            System.arraycopy(keptResidual, 0, residual, 0, EDGES);
        }

        /** Makes the flow a maximum one. Its last search finds no way, and so it marks the near side. */
        int pushAll() {
            int total = 0;
            for (int i = 0; i < MOST_PUSHES; i++) {
                int pushed = push();
                if (pushed == 0) {
                    break;
                }
                total += pushed;
            }
            return total;
        }

        /** Answers by how much the flow grew, 0 if it was a maximum one. */
        int push() {
            if (!findWay()) {
                return 0;
            }
            int amount = UNLIMITED;
            int node = SINK;
            for (int step = 0; step < NODES && node != SOURCE; step++) {
                int edge = reachedBy[node];
                amount = Math.min(amount, residual[edge]);
                node = target[edge ^ 1];
            }
            node = SINK;
            for (int step = 0; step < NODES && node != SOURCE; step++) {
                int edge = reachedBy[node];
                residual[edge] -= amount;
                residual[edge ^ 1] += amount;
                node = target[edge ^ 1];
            }
            return amount;
        }

        private boolean findWay() {
            search++;
            reachedIn[SOURCE] = search;
            queue[0] = SOURCE;
            int queued = 1;
            for (int i = 0; i < queued && i < NODES; i++) {
                int edge = firstEdge[queue[i]];
                for (int tried = 0; edge != NO_EDGE && tried < EDGES; tried++) {
                    int node = target[edge];
                    if (residual[edge] > 0 && reachedIn[node] != search && queued < NODES) {
                        reachedIn[node] = search;
                        reachedBy[node] = edge;
                        if (node == SINK) {
                            return true;
                        }
                        queue[queued] = node;
                        queued++;
                    }
                    edge = nextEdge[edge];
                }
            }
            return false;
        }

        private boolean isNear(int node) {
            return reachedIn[node] == search;
        }

        int sideOf(int tile) {
            if (!isNear(FIRST_ENTRANCE + tile)) {
                return FAR;
            }
            return isNear(FIRST_EXIT + tile) ? NEAR : CUT;
        }

        int countCutChannels() {
            int count = 0;
            for (int edge = firstChannelEdge; edge + 3 < edgeCount; edge += 4) {
                if (leavesNearSide(edge) || leavesNearSide(edge + 2)) {
                    count++;
                }
            }
            return count;
        }

        private boolean leavesNearSide(int edge) {
            return isNear(target[edge ^ 1]) && !isNear(target[edge]);
        }
    }

    /** The layering of one strategy. */
    private static final class Layering {
        static final int NOT_YET = 0;

        private static final int DEEPEST_RING = (LONGEST_SIDE - 1) / 2;

        private final int strategy;
        private final int[] order;
        private int ordered;
        private final int[] consideredFor;
        private final boolean[] open;
        final int[] layerAt;
        int layers;
        boolean complete;
        boolean fresh;

        Layering(int strategyNumber) {
            strategy = strategyNumber;
            order = new int[POSITIONS];
            ordered = 0;
            consideredFor = new int[POSITIONS];
            open = new boolean[POSITIONS];
            layerAt = new int[POSITIONS];
            layers = 0;
            complete = false;
            fresh = false;
        }

        int countOn(int layer) {
            int count = 0;
            for (int place = 0; place < POSITIONS; place++) {
                if (layerAt[place] == layer) {
                    count++;
                }
            }
            return count;
        }

        /** Makes the layering anew if an edit has come since it was made. Answers itself. */
        Layering refresh(Board board, FlowNetwork network) {
            if (fresh) {
                return this;
            }
            putInOrder(board);
            for (int place = 0; place < POSITIONS; place++) {
                layerAt[place] = NOT_YET;
                consideredFor[place] = NOT_YET;
            }
            layers = 0;
            int left = board.countSignals();
            for (int layer = 1; layer <= POSITIONS && left > 0; layer++) {
                int put = fill(layer, board, network);
                if (put == 0) {
                    break;
                }
                layers = layer;
                left -= put;
            }
            complete = left == 0;
            fresh = true;
            return this;
        }

        private int fill(int layer, Board board, FlowNetwork network) {
            for (int place = 0; place < POSITIONS; place++) {
                open[place] = board.kinds[place] == NONE_THERE || layerAt[place] != NOT_YET;
            }
            network.build(board, open, 1);
            int put = 0;
            for (int i = 0; i < ordered; i++) {
                int place = order[i];
                boolean waits = board.kinds[place] == SIGNAL && layerAt[place] == NOT_YET;
                if (waits && consideredFor[place] != layer) {
                    put += consider(place, board.partners[place], layer, network);
                }
            }
            return put;
        }

        /** Answers how many pins were put on the layer. A pair goes on it as a whole or not at all. */
        private int consider(int place, int partner, int layer, FlowNetwork network) {
            boolean paired = partner != NOWHERE;
            network.keepFlow();
            consideredFor[place] = layer;
            network.supply(place, 1);
            if (paired) {
                consideredFor[partner] = layer;
                network.supply(partner, 1);
            }
            int pins = paired ? 2 : 1;
            for (int i = 0; i < pins; i++) {
                if (network.push() == 0) {
                    network.giveFlowBack();
                    return 0;
                }
            }
            layerAt[place] = layer;
            if (paired) {
                layerAt[partner] = layer;
            }
            return pins;
        }

        private void putInOrder(Board board) {
            ordered = 0;
            if (strategy == ROWS_FIRST) {
                addByRows(board);
            } else if (strategy == COLUMNS_FIRST) {
                addByColumns(board);
            } else {
                for (int i = 0; i <= DEEPEST_RING; i++) {
                    addRing(board, strategy == OUTSIDE_IN ? i : DEEPEST_RING - i);
                }
            }
        }

        private void addByRows(Board board) {
            for (int row = 0; row < board.rowCount; row++) {
                for (int column = 0; column < board.columnCount; column++) {
                    addPlace(row, column);
                }
            }
        }

        private void addByColumns(Board board) {
            for (int column = 0; column < board.columnCount; column++) {
                for (int row = 0; row < board.rowCount; row++) {
                    addPlace(row, column);
                }
            }
        }

        private void addRing(Board board, int ring) {
            for (int row = 0; row < board.rowCount; row++) {
                for (int column = 0; column < board.columnCount; column++) {
                    if (ringOf(board, row, column) == ring) {
                        addPlace(row, column);
                    }
                }
            }
        }

        private static int ringOf(Board board, int row, int column) {
            int fromRowEnds = Math.min(row, board.rowCount - 1 - row);
            int fromColumnEnds = Math.min(column, board.columnCount - 1 - column);
            return Math.min(fromRowEnds, fromColumnEnds);
        }

        private void addPlace(int row, int column) {
            if (ordered < POSITIONS) {
                order[ordered] = placeOf(row, column);
                ordered++;
            }
        }
    }
}
