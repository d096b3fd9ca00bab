/** The boundary cases of "Wires", "The selection" and the promises 15 to 20, a test for each sentence. */
public final class SelectionEdgesTest {
    public static void main(String[] args) {
        selectArguments();
        selectState();
        deselectArguments();
        deselectState();
        clearSelection();
        everyPinSelected();
        emptySelection();
        rimTiles();
        fourTiles();
        channels();
        noRoomInTiles();
        tileCapacity();
        channelCapacity();
        openPositions();
        oneWireForEachPin();
        selectedPinsAreClosed();
        pairsHaveNoInfluence();
        smallestNearSide();
        tileArguments();
        channelOfCapacityZero();
        Checks.finish("SelectionEdgesTest");
    }

    /** select: "INVALID_ARGUMENT if there is no such position" */
    private static void selectArguments() {
        EscapeRouter x = Checks.loaded("sss;sss;");
        for (int row : Edges.outside(2)) {
            Edges.refusedArgument("select of row " + row, x.select(row, 0));
        }
        for (int column : Edges.outside(3)) {
            Edges.refusedArgument("select of column " + column, x.select(0, column));
            Edges.refusedArgument("select of column " + column, x.select(1, column));
        }
        Checks.due("the last position", x.select(1, 2), 1);
        Checks.due("the first position", x.select(0, 0), 2);
    }

    /** select: "INVALID_STATE if it is not SIGNAL, or is selected" */
    private static void selectState() {
        EscapeRouter x = Checks.loaded("sp.;");
        Edges.refusedState("POWER", x.select(0, 1));
        Edges.refusedState("NONE_THERE", x.select(0, 2));
        Checks.due("SIGNAL", x.select(0, 0), 1);
        Edges.refusedState("selected", x.select(0, 0));
        Checks.due("it was counted once", x.clearSelection(), 1);
    }

    /** deselect: "INVALID_ARGUMENT if there is no such position" */
    private static void deselectArguments() {
        EscapeRouter x = Checks.loaded("ss;ss;ss;");
        for (int place = 0; place < 6; place++) {
            x.select(place / 2, place % 2);
        }
        for (int row : Edges.outside(3)) {
            Edges.refusedArgument("deselect of row " + row, x.deselect(row, 0));
        }
        for (int column : Edges.outside(2)) {
            Edges.refusedArgument("deselect of column " + column, x.deselect(0, column));
            Edges.refusedArgument("deselect of column " + column, x.deselect(1, column));
        }
        Checks.due("all are still selected", x.clearSelection(), 6);
    }

    /** deselect: "INVALID_STATE if it is not selected" */
    private static void deselectState() {
        EscapeRouter x = Checks.loaded("ssp.;");
        x.select(0, 0);
        Edges.refusedState("SIGNAL, not selected", x.deselect(0, 1));
        Edges.refusedState("POWER", x.deselect(0, 2));
        Edges.refusedState("NONE_THERE", x.deselect(0, 3));
        Checks.due("deselect", x.deselect(0, 0), 0);
        Edges.refusedState("again", x.deselect(0, 0));
    }

    /** clearSelection: "Returns the number of pins that were selected; INVALID_STATE if there were none." */
    private static void clearSelection() {
        EscapeRouter x = new EscapeRouter();
        Edges.refusedState("nothing selected", x.clearSelection());
        x.select(0, 0);
        x.deselect(0, 0);
        Edges.refusedState("nothing selected any more", x.clearSelection());
        x.select(1, 1);
        x.setKind(1, 1, 0);
        Edges.refusedState("the selected pin is gone", x.clearSelection());
        x.select(0, 0);
        Checks.due("one", x.clearSelection(), 1);
        Edges.refusedState("again", x.clearSelection());
    }

    /** select: "Returns the number of selected pins afterwards", up to a full grid and down to none again */
    private static void everyPinSelected() {
        EscapeRouter x = Checks.loaded(Edges.FULL_GRID, 5, 9);
        for (int place = 0; place < 36; place++) {
            Checks.due("select", x.select(place / 6, place % 6), place + 1);
            Checks.due("escapeCount", x.escapeCount(), place + 1);
        }
        x.setChannelCapacity(0);
        Checks.due("only the pins at the rim", x.escapeCount(), 20);
        for (int place = 0; place < 36; place++) {
            Checks.due("deselect", x.deselect(place / 6, place % 6), 35 - place);
        }
        Checks.due("undo of the last deselect", x.undo(), 7);
        Checks.due("clearSelection", x.clearSelection(), 1);
    }

    /** "A set of SIGNAL pins is selected; initially it is empty." Then the near side is the source alone. */
    private static void emptySelection() {
        EscapeRouter x = new EscapeRouter();
        for (int tileCapacity = 0; tileCapacity < 3; tileCapacity++) {
            x.setTileCapacity(tileCapacity);
            Checks.due("escapeCount", x.escapeCount(), 0);
            Edges.same("all tiles are far", Edges.sides(x), "2222/2222/2222/2222/");
            Checks.due("cutChannels", x.cutChannels(), 0);
        }
    }

    /** "A tile is a rim tile if its row is 0 or R, or its column is 0 or C." */
    private static void rimTiles() {
        for (int rows = 1; rows <= 6; rows++) {
            for (int columns = 1; columns <= 6; columns++) {
                EscapeRouter x = Checks.loaded(Edges.gridOf('s', rows, columns), 0, 1);
                for (int place = 0; place < rows * columns; place++) {
                    int row = place / columns;
                    int column = place % columns;
                    boolean outer = row == 0 || row == rows - 1 || column == 0 || column == columns - 1;
                    x.select(row, column);
                    Checks.due("escapeCount of " + row + ", " + column, x.escapeCount(), outer ? 1 : 0);
                    x.deselect(row, column);
                }
            }
        }
    }

    /** "The position in row r and column c touches the four tiles (r, c), (r, c + 1), ..." */
    private static void fourTiles() {
        EscapeRouter x = Checks.loaded(Edges.gridOf('s', 4, 5), 0, 1);
        x.select(1, 1);
        Edges.same("around (1,1)", Edges.sides(x), "222222/200222/200222/222222/222222/");
        x.undo();
        x.select(2, 3);
        Edges.same("around (2,3)", Edges.sides(x), "222222/222222/222002/222002/222222/");
        x.setTileCapacity(0);
        Edges.same("without room", Edges.sides(x), "222222/222222/222112/222112/222222/");
        for (int row = 1; row < 5; row++) {
            for (int column = 1; column < 5; column++) {
                fourTilesOfLargestGrid(row, column);
            }
        }
    }

    private static void fourTilesOfLargestGrid(int row, int column) {
        EscapeRouter x = Checks.loaded(Edges.FULL_GRID, 0, 1);
        x.select(row, column);
        for (int tileRow = 0; tileRow <= 6; tileRow++) {
            for (int tileColumn = 0; tileColumn <= 6; tileColumn++) {
                boolean rowTouched = tileRow == row || tileRow == row + 1;
                boolean columnTouched = tileColumn == column || tileColumn == column + 1;
                int side = rowTouched && columnTouched ? 0 : 2;
                Checks.due("tileSide " + tileRow + ", " + tileColumn, x.tileSide(tileRow, tileColumn), side);
            }
        }
        Checks.due("eight channels around them", x.cutChannels(), 8);
    }

    /** "Between two neighbouring positions lies a channel, which joins the two tiles that both ... touch" */
    private static void channels() {
        EscapeRouter upper = Checks.loaded("ppppp;p.ppp;ppspp;ppppp;ppppp;", 0, 1);
        upper.select(2, 2);
        Edges.same("a way up and left", Edges.sides(upper), "222222/200222/200022/220022/222222/222222/");
        Checks.due("cutChannels", upper.cutChannels(), 12);
        EscapeRouter side = Checks.loaded("ppppp;ppppp;pps.p;ppppp;ppppp;", 0, 1);
        side.select(2, 2);
        Edges.same("a way to the right", Edges.sides(side), "222222/222222/220002/220002/222222/222222/");
        Checks.due("cutChannels", side.cutChannels(), 10);
        EscapeRouter below = Checks.loaded("ppppp;ppppp;ppspp;pp.pp;ppppp;", 0, 1);
        below.select(2, 2);
        Edges.same("a way down", Edges.sides(below), "222222/222222/220022/220022/220022/222222/");
        Checks.due("cutChannels", below.cutChannels(), 10);
    }

    /** "The tile capacity (0 ...)": without room in tiles nothing escapes, and the pins' tiles are cut */
    private static void noRoomInTiles() {
        EscapeRouter x = Checks.loaded("s;", 5, 0);
        x.select(0, 0);
        Checks.due("escapeCount", x.escapeCount(), 0);
        Edges.same("tiles", Edges.sides(x), "11/11/");
        Checks.due("there is no channel", x.cutChannels(), 0);
        EscapeRouter wide = Checks.loaded("s..;...;", 5, 0);
        wide.select(0, 0);
        Edges.same("tiles", Edges.sides(wide), "1122/1122/2222/");
        Checks.due("cutChannels", wide.cutChannels(), 0);
    }

    /** "The tile capacity ... is the greatest number of wires that may be in a tile." */
    private static void tileCapacity() {
        // Two channels lead into tile (1, 1) and two from it to the rim; each lets one wire through.
        EscapeRouter x = Checks.loaded(".pppp;p.spp;psspp;ppppp;ppppp;", 0, 1);
        x.select(1, 2);
        x.select(2, 1);
        x.select(2, 2);
        Checks.due("one in tile (1,1)", x.escapeCount(), 1);
        Checks.due("it is cut", x.tileSide(1, 1), 1);
        x.setTileCapacity(2);
        Checks.due("two in tile (1,1)", x.escapeCount(), 2);
        x.setTileCapacity(3);
        Checks.due("the channels are the limit", x.escapeCount(), 2);
        Checks.due("those into tile (1,1) are cut", x.tileSide(1, 1), 2);
        EscapeRouter most = Checks.loaded("s;", 0, 9);
        Checks.due("nine in each of four tiles", most.throughput(), 36);
    }

    /** "The channel capacity ... is the greatest number of wires that may go through a channel" */
    private static void channelCapacity() {
        for (int capacity = 0; capacity <= 5; capacity++) {
            EscapeRouter x = Checks.loaded("ppp;psp;ppp;", capacity, 9);
            Checks.due("through eight channels, 9 in a tile", x.throughput(), Math.min(8 * capacity, 36));
        }
    }

    /** "it is greater by 1 for each of its two positions that is open on the layer" */
    private static void openPositions() {
        Checks.due("none of eight", Checks.loaded("ppp;psp;ppp;", 0, 9).throughput(), 0);
        Checks.due("a corner: two channels", Checks.loaded(".pp;psp;ppp;", 0, 9).throughput(), 2);
        Checks.due("an edge: two channels", Checks.loaded("p.p;psp;ppp;", 0, 9).throughput(), 2);
        Checks.due("both, one channel twice", Checks.loaded("..p;psp;ppp;", 0, 9).throughput(), 4);
        Checks.due("all eight twice", Checks.loaded("...;.s.;...;", 0, 9).throughput(), 16);
        Checks.due("and the capacity", Checks.loaded("...;.s.;...;", 1, 9).throughput(), 24);
        Checks.due("three and two, nine", Checks.loaded("...;.s.;...;", 3, 9).throughput(), 36);
    }

    /** "edges from the source to each selected pin with capacity 1" */
    private static void oneWireForEachPin() {
        EscapeRouter x = Checks.loaded("s;", 5, 9);
        x.select(0, 0);
        Checks.due("one pin, room for 36", x.escapeCount(), 1);
        Edges.same("no bottleneck but the pin", Edges.sides(x), "22/22/");
    }

    /** "the first layer is considered, on which exactly the positions of the kind NONE_THERE are open" */
    private static void selectedPinsAreClosed() {
        EscapeRouter x = Checks.loaded("ssp;ssp;ppp;", 0, 1);
        x.select(0, 0);
        x.select(0, 1);
        x.select(1, 1);
        Checks.due("SIGNAL and POWER are closed", x.escapeCount(), 2);
        x.setKind(0, 2, 0);
        Checks.due("NONE_THERE is open", x.escapeCount(), 3);
        x.setKind(0, 2, 2);
        Checks.due("POWER is closed", x.escapeCount(), 2);
    }

    /** "(Pairs have no influence here.)" */
    private static void pairsHaveNoInfluence() {
        EscapeRouter x = Checks.loaded("sss;sss;sss;", 0, 1);
        x.select(1, 1);
        x.select(0, 1);
        String sides = Edges.sides(x);
        int cut = x.cutChannels();
        x.makePair(0, 1, 1, 1);
        Checks.due("half of a pair escapes", x.escapeCount(), 1);
        Edges.same("the same sides", Edges.sides(x), sides);
        Checks.due("the same cut", x.cutChannels(), cut);
        x.deselect(1, 1);
        Checks.due("a pin without its partner", x.escapeCount(), 1);
    }

    /**
     * "the smallest set of nodes that contains the source and is the source side of a minimum cut": the
     * tiles (1, 1) and (2, 2) hold one wire each, and the cut is at the one that is nearer to the pins.
     */
    private static void smallestNearSide() {
        EscapeRouter x = Checks.loaded(".ppppp;p.pppp;pp.spp;pppspp;pppppp;pppppp;", 0, 1);
        x.select(2, 3);
        x.select(3, 3);
        Checks.due("escapeCount", x.escapeCount(), 1);
        Edges.same("sides", Edges.sides(x), "2222222/2222222/2210022/2200022/2220022/2222222/2222222/");
        Checks.due("cutChannels", x.cutChannels(), 10);
        x.deselect(2, 3);
        Checks.due("escapeCount of one pin", x.escapeCount(), 1);
        Edges.same("the pin is the cut", Edges.sides(x), Edges.gridOf('2', 7, 7).replace(';', '/'));
        Checks.due("cutChannels", x.cutChannels(), 0);
    }

    /** tileSide: "0 to the number of rows", "0 to the number of columns" */
    private static void tileArguments() {
        EscapeRouter x = Checks.loaded("ss;ss;ss;");
        for (int row : Edges.outside(4)) {
            Edges.refusedArgument("tileSide of row " + row, x.tileSide(row, 0));
        }
        for (int column : Edges.outside(3)) {
            Edges.refusedArgument("tileSide of column " + column, x.tileSide(0, column));
            Edges.refusedArgument("tileSide of column " + column, x.tileSide(3, column));
        }
        EscapeRouter full = Checks.loaded(Edges.FULL_GRID, 0, 0);
        full.select(5, 5);
        Checks.due("the last tile", full.tileSide(6, 6), 1);
        Edges.refusedArgument("one behind it", full.tileSide(6, 7));
        Edges.refusedArgument("one below it", full.tileSide(7, 6));
    }

    /** "A channel is cut if the exit of one of its tiles is on the near side and the entrance ... is not." */
    private static void channelOfCapacityZero() {
        EscapeRouter x = Checks.loaded("ppp;psp;ppp;", 0, 1);
        x.select(1, 1);
        Checks.due("channels of capacity 0 are cut too", x.cutChannels(), 8);
        x.setTileCapacity(0);
        Checks.due("not if the exits are not near", x.cutChannels(), 0);
        EscapeRouter row = Checks.loaded("ssssss;", 0, 1);
        row.select(0, 3);
        Checks.due("a single row: the pin itself is the cut", row.cutChannels(), 0);
    }
}
