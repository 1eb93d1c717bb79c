/** ROWS: their part of the terms, and promises 2 to 5. */
final class EdgeRows {
    private static final int MAX = Integer.MAX_VALUE, MIN = Integer.MIN_VALUE;

    private final Edges edges;

    EdgeRows(Edges edges) {
        this.edges = edges;
    }

    void run() {
        rowsAreMissingAtFirst();
        lanesHaveTheirBits();
        rowsHaveUpToFortyItems();
        itemsAreNoughtAtFirst();
        rowStandsInPlaceOfAnother();
        rowNumberIsBad();
        laneIsBad();
        aboveFortyIsBad();
        belowNoneIsSize();
        setTakesTheLowestBits();
        setAnswersWhatTheItemIsThen();
        setOfNoRowIsBad();
        setOfAMissingRowIsNull();
        setOfNoPlaceIsPlace();
        copyMovesItemsAsTheyWereAhead();
        copyOfNoRowsIsBad();
        copyOfMissingRowsIsNull();
        copyOfTwoLanesIsStore();
        copyBelowNoughtIsPlace();
        copyBeyondAnEndIsPlace();
        dropTellsHowManyItems();
        dropOfNoRowIsBad();
        dropOfAMissingRowIsNull();
    }

    private static ThreeRiddles withRow(int lane, int n) {
        ThreeRiddles x = new ThreeRiddles();
        x.row(0, lane, n);
        return x;
    }

    private void rowsAreMissingAtFirst() {
        edges.of("Terms 1", "ROWS 0 .. 7 are missing (at first)");
        ThreeRiddles x = new ThreeRiddles();
        edges.is("rows", x.count(0), 0);
        for (int row = 0; row < 8; row++) {
            edges.is("set of row " + row, x.set(row, 0, 0), Due.NULL);
            edges.is("drop of row " + row, x.drop(row), Due.NULL);
            edges.is("copy of row " + row, x.copy(row, 0, row, 0, 0), Due.NULL);
        }
        for (int row = 0; row < 8; row++) {
            edges.is("row " + row, x.row(row, 0, 1), 1);
            edges.is("rows then", x.count(0), row + 1);
        }
    }

    private void lanesHaveTheirBits() {
        edges.of("Terms 1", "or have a LANE (0 bytes, 1 shorts, 2 ints)");
        edges.is("a byte", withRow(0, 1).set(0, 0, 0x12345678), 0x78);
        edges.is("a short", withRow(1, 1).set(0, 0, 0x12345678), 0x5678);
        edges.is("an int", withRow(2, 1).set(0, 0, 0x12345678), 0x12345678);
    }

    private void rowsHaveUpToFortyItems() {
        edges.of("Terms 1", "and 0 to 40 ITEMS");
        for (int lane = 0; lane < 3; lane++) {
            ThreeRiddles x = new ThreeRiddles();
            edges.is("none", x.row(0, lane, 0), 0);
            edges.is("no place in it", x.set(0, 0, 1), Due.PLACE);
            edges.is("forty", x.row(0, lane, 40), 40);
            edges.is("the last place", x.set(0, 39, 1), 1);
            edges.is("beyond it", x.set(0, 40, 1), Due.PLACE);
            edges.is("forty had", x.drop(0), 40);
        }
    }

    private void itemsAreNoughtAtFirst() {
        edges.of("Terms 1", ", 0 at first.");
        ThreeRiddles x = Due.told(Edges.ITEMS);
        for (int row = 0; row < 8; row += 7) {
            for (int i = 0; i < 40; i++) {
                edges.is("row", x.row(row, 0, 40), 40);
                edges.item(x, row, i, 0);
                x.set(row, i, 3);
            }
        }
    }

    private void rowStandsInPlaceOfAnother() {
        edges.of("Promise 2", "A ROW of a LANE with n ITEMS, in place of what is there: n.");
        ThreeRiddles x = Due.told(Edges.ITEMS);
        edges.is("ints", x.row(5, 2, 3), 3);
        edges.is("an int", x.set(5, 2, 70000), 70000);
        edges.is("bytes in their place", x.row(5, 0, 4), 4);
        edges.is("one row still", x.count(0), 1);
        edges.items(x, 5, 0, 0, 0, 0);
        edges.is("a byte now", x.set(5, 2, 128), -128);
        edges.is("none in its place", x.row(5, 0, 0), 0);
        edges.is("a row all the same", x.count(0), 1);
        edges.is("no place now", x.set(5, 0, 0), Due.PLACE);
        edges.is("behind a drop", x.drop(5) + x.row(5, 1, 1), 1);
        edges.item(x, 5, 0, 0);
        x.row(4, 0, 40);
        x.row(6, 0, 40);
        x.set(4, 39, 2);
        x.set(6, 0, 3);
        x.row(5, 0, 40);
        edges.item(x, 4, 39, 2);
        edges.item(x, 6, 0, 3);
    }

    private void rowNumberIsBad() {
        edges.of("Promise 2", "BAD: ROW");
        ThreeRiddles x = new ThreeRiddles();
        edges.is("row 0", x.row(0, 0, 1), 1);
        edges.is("row 7", x.row(7, 0, 1), 1);
        edges.is("row -1", x.row(-1, 0, 1), Due.BAD);
        edges.is("row 8", x.row(8, 0, 1), Due.BAD);
        edges.is("row max", x.row(MAX, 0, 1), Due.BAD);
        edges.is("row min", x.row(MIN, 0, 1), Due.BAD);
        edges.is("row 8, ahead of SIZE", x.row(8, 0, -1), Due.BAD);
        edges.is("rows", x.count(0), 2);
    }

    private void laneIsBad() {
        edges.of("Promise 2", ", LANE");
        ThreeRiddles x = new ThreeRiddles();
        edges.is("lane 0", x.row(0, 0, 1), 1);
        edges.is("lane 2", x.row(0, 2, 1), 1);
        edges.is("lane -1", x.row(0, -1, 1), Due.BAD);
        edges.is("lane 3", x.row(0, 3, 1), Due.BAD);
        edges.is("lane max", x.row(0, MAX, 1), Due.BAD);
        edges.is("lane min", x.row(0, MIN, 1), Due.BAD);
        edges.is("lane 3, ahead of SIZE", x.row(0, 3, -1), Due.BAD);
        edges.is("ints still", x.set(0, 0, 70000), 70000);
    }

    private void aboveFortyIsBad() {
        edges.of("Promise 2", "n above 40");
        ThreeRiddles x = new ThreeRiddles();
        edges.is("40", x.row(0, 0, 40), 40);
        edges.is("41", x.row(0, 0, 41), Due.BAD);
        edges.is("max", x.row(0, 0, MAX), Due.BAD);
        edges.is("40 still", x.drop(0), 40);
    }

    private void belowNoneIsSize() {
        edges.of("Promise 2", "SIZE");
        ThreeRiddles x = new ThreeRiddles();
        edges.is("0", x.row(0, 0, 0), 0);
        edges.is("-1", x.row(0, 0, -1), Due.SIZE);
        edges.is("min", x.row(0, 0, MIN), Due.SIZE);
        edges.is("of a missing one", x.row(1, 0, -1), Due.SIZE);
        edges.is("that is missing still", x.count(0), 1);
        edges.is("the other has none still", x.drop(0), 0);
    }

    private void setTakesTheLowestBits() {
        edges.of("Promise 3", "ITEM i becomes v, its lowest bits, as many as the LANE has (read with their sign)");
        int[][] bytes = {{127, 127}, {128, -128}, {255, -1}, {256, 0}, {-128, -128}, {-129, 127}, {MAX, -1}, {MIN, 0}};
        int[][] shorts = {{32767, 32767}, {32768, -32768}, {65535, -1}, {65536, 0}, {-32768, -32768},
            {-32769, 32767}, {MAX, -1}, {MIN, 0}};
        int[][] ints = {{MAX, MAX}, {MIN, MIN}, {-1, -1}, {65536, 65536}};
        becomes(0, bytes);
        becomes(1, shorts);
        becomes(2, ints);
    }

    private void becomes(int lane, int[][] pairs) {
        ThreeRiddles x = withRow(lane, 40);
        for (int[] pair : pairs) {
            edges.is("lane " + lane + ", first place, " + pair[0], x.set(0, 0, pair[0]), pair[1]);
            edges.is("lane " + lane + ", last place, " + pair[0], x.set(0, 39, pair[0]), pair[1]);
        }
    }

    private void setAnswersWhatTheItemIsThen() {
        edges.of("Promise 3", ": what it is then.");
        ThreeRiddles x = Due.told(Edges.ITEMS);
        x.row(0, 0, 3);
        edges.is("256 and 2", x.set(0, 1, 258), 2);
        edges.items(x, 0, 0, 2, 0);
        edges.is("255", x.set(0, 2, 255), -1);
        edges.items(x, 0, 0, 2, -1);
    }

    private void setOfNoRowIsBad() {
        edges.of("Promise 3", "BAD: ROW");
        ThreeRiddles x = new ThreeRiddles();
        for (int row : new int[] {-1, 8, MAX, MIN}) {
            edges.is("row " + row, x.set(row, 0, 0), Due.BAD);
        }
        x.row(7, 0, 1);
        edges.is("row 7", x.set(7, 0, 5), 5);
    }

    private void setOfAMissingRowIsNull() {
        edges.of("Promise 3", "NULL");
        ThreeRiddles x = withRow(0, 1);
        edges.is("row 0", x.set(0, 0, 5), 5);
        edges.is("row 1", x.set(1, 0, 5), Due.NULL);
        edges.is("ahead of PLACE", x.set(1, -1, 5), Due.NULL);
        x.drop(0);
        edges.is("row 0, dropped", x.set(0, 0, 5), Due.NULL);
    }

    private void setOfNoPlaceIsPlace() {
        edges.of("Promise 3", "PLACE");
        ThreeRiddles x = withRow(0, 3);
        edges.is("0", x.set(0, 0, 5), 5);
        edges.is("2", x.set(0, 2, 5), 5);
        for (int i : new int[] {-1, 3, 39, 40, MAX, MIN}) {
            edges.is("place " + i, x.set(0, i, 5), Due.PLACE);
        }
        edges.is("0 of an empty row", withRow(2, 0).set(0, 0, 5), Due.PLACE);
        edges.is("39 of a full row", withRow(2, 40).set(0, 39, 5), 5);
        edges.is("40 of a full row", withRow(2, 40).set(0, 40, 5), Due.PLACE);
    }

    private ThreeRiddles counted(int row, int lane) {
        ThreeRiddles x = Due.told(Edges.ITEMS);
        x.row(row, lane, 5);
        for (int i = 0; i < 5; i++) {
            x.set(row, i, i);
        }
        return x;
    }

    private void copyMovesItemsAsTheyWereAhead() {
        edges.of("Promise 4", "n ITEMS of a from i on come to b from j on, as they were ahead: n.");
        for (int lane = 0; lane < 3; lane++) {
            ThreeRiddles up = counted(3, lane);
            edges.is("up by one", up.copy(3, 0, 3, 1, 4), 4);
            edges.items(up, 3, 0, 0, 1, 2, 3);
            ThreeRiddles down = counted(3, lane);
            edges.is("down by one", down.copy(3, 1, 3, 0, 4), 4);
            edges.items(down, 3, 1, 2, 3, 4, 4);
            ThreeRiddles still = counted(3, lane);
            edges.is("onto itself", still.copy(3, 0, 3, 0, 5), 5);
            edges.items(still, 3, 0, 1, 2, 3, 4);
            ThreeRiddles other = counted(0, lane);
            other.row(7, lane, 5);
            edges.is("to another", other.copy(0, 2, 7, 1, 3), 3);
            edges.items(other, 7, 0, 2, 3, 4, 0);
            edges.items(other, 0, 0, 1, 2, 3, 4);
            edges.is("none", other.copy(0, 0, 7, 0, 0), 0);
            edges.items(other, 7, 0, 2, 3, 4, 0);
        }
        ThreeRiddles full = Due.told(Edges.ITEMS);
        full.row(0, 0, 40);
        full.row(1, 0, 40);
        full.set(0, 39, 4);
        full.set(0, 0, 3);
        edges.is("all forty", full.copy(0, 0, 1, 0, 40), 40);
        edges.item(full, 1, 0, 3);
        edges.item(full, 1, 39, 4);
    }

    private void copyOfNoRowsIsBad() {
        edges.of("Promise 4", "BAD: ROWS");
        ThreeRiddles x = new ThreeRiddles();
        x.row(0, 0, 1);
        x.row(7, 0, 1);
        edges.is("0 to 7", x.copy(0, 0, 7, 0, 1), 1);
        edges.is("7 to 0", x.copy(7, 0, 0, 0, 1), 1);
        for (int row : new int[] {-1, 8, MAX, MIN}) {
            edges.is("a " + row, x.copy(row, 0, 0, 0, 1), Due.BAD);
            edges.is("b " + row, x.copy(0, 0, row, 0, 1), Due.BAD);
            edges.is("b " + row + ", ahead of NULL", x.copy(1, 0, row, 0, 1), Due.BAD);
            edges.is("a " + row + ", ahead of PLACE", x.copy(row, -1, 0, -1, -1), Due.BAD);
        }
    }

    private void copyOfMissingRowsIsNull() {
        edges.of("Promise 4", "NULL");
        ThreeRiddles x = new ThreeRiddles();
        x.row(0, 0, 1);
        edges.is("a", x.copy(1, 0, 0, 0, 1), Due.NULL);
        edges.is("b", x.copy(0, 0, 1, 0, 1), Due.NULL);
        edges.is("both", x.copy(1, 0, 1, 0, 1), Due.NULL);
        edges.is("none of its items", x.copy(1, 0, 0, 0, 0), Due.NULL);
        edges.is("a, ahead of PLACE", x.copy(1, -1, 0, 9, -1), Due.NULL);
        edges.is("b, ahead of PLACE", x.copy(0, -1, 1, 9, -1), Due.NULL);
        x.row(1, 1, 1);
        x.drop(1);
        edges.is("of another lane once, ahead of STORE", x.copy(0, 0, 1, 0, 1), Due.NULL);
    }

    private void copyOfTwoLanesIsStore() {
        edges.of("Promise 4", "STORE");
        ThreeRiddles x = new ThreeRiddles();
        for (int lane = 0; lane < 3; lane++) {
            x.row(lane, lane, 2);
            x.row(lane + 3, lane, 2);
        }
        for (int a = 0; a < 3; a++) {
            for (int b = 3; b < 6; b++) {
                int want = a == b - 3 ? 1 : Due.STORE;
                edges.is(a + " to " + b, x.copy(a, 0, b, 0, 1), want);
                edges.is(b + " to " + a, x.copy(b, 0, a, 0, 1), want);
            }
        }
        edges.is("no items", x.copy(0, 0, 1, 0, 0), Due.STORE);
        edges.is("ahead of PLACE", x.copy(0, -1, 1, 9, -1), Due.STORE);
        x.row(1, 0, 2);
        edges.is("of one lane now", x.copy(0, 0, 1, 0, 1), 1);
    }

    private void copyBelowNoughtIsPlace() {
        edges.of("Promise 4", "PLACE (i, j, n below 0");
        ThreeRiddles x = new ThreeRiddles();
        x.row(0, 0, 4);
        x.row(1, 0, 4);
        for (int below : new int[] {-1, MIN}) {
            edges.is("i " + below, x.copy(0, below, 1, 0, 1), Due.PLACE);
            edges.is("i " + below + ", n 0", x.copy(0, below, 1, 0, 0), Due.PLACE);
            edges.is("j " + below, x.copy(0, 0, 1, below, 1), Due.PLACE);
            edges.is("j " + below + ", n 0", x.copy(0, 0, 1, below, 0), Due.PLACE);
            edges.is("n " + below, x.copy(0, 0, 1, 0, below), Due.PLACE);
            edges.is("n " + below + " from the end", x.copy(0, 4, 1, 4, below), Due.PLACE);
        }
        edges.is("all 0", x.copy(0, 0, 1, 0, 0), 0);
    }

    private void copyBeyondAnEndIsPlace() {
        edges.of("Promise 4", "or beyond an end)");
        ThreeRiddles x = new ThreeRiddles();
        x.row(0, 0, 6);
        x.row(1, 0, 4);
        edges.is("to the end of a", x.copy(0, 3, 1, 0, 3), 3);
        edges.is("beyond the end of a", x.copy(0, 4, 1, 0, 3), Due.PLACE);
        edges.is("to the end of b", x.copy(0, 0, 1, 1, 3), 3);
        edges.is("beyond the end of b", x.copy(0, 0, 1, 2, 3), Due.PLACE);
        edges.is("all of b", x.copy(0, 0, 1, 0, 4), 4);
        edges.is("more than b has", x.copy(0, 0, 1, 0, 5), Due.PLACE);
        edges.is("more than a has", x.copy(1, 0, 0, 0, 5), Due.PLACE);
        edges.is("none from both ends", x.copy(0, 6, 1, 4, 0), 0);
        edges.is("none from beyond a", x.copy(0, 7, 1, 4, 0), Due.PLACE);
        edges.is("none from beyond b", x.copy(0, 6, 1, 5, 0), Due.PLACE);
        edges.is("i goes round", x.copy(0, MAX, 1, 0, 1), Due.PLACE);
        edges.is("j goes round", x.copy(0, 0, 1, MAX, 1), Due.PLACE);
        edges.is("n goes round", x.copy(0, 1, 1, 1, MAX), Due.PLACE);
        edges.is("up within a row, beyond", x.copy(0, 0, 0, 1, 6), Due.PLACE);
        x.row(2, 0, 0);
        edges.is("none of an empty row", x.copy(2, 0, 2, 0, 0), 0);
        edges.is("one of an empty row", x.copy(2, 0, 1, 0, 1), Due.PLACE);
    }

    private void dropTellsHowManyItems() {
        edges.of("Promise 5", "A ROW is missing from now on: how many ITEMS it had.");
        ThreeRiddles x = new ThreeRiddles();
        for (int n : new int[] {0, 1, 40}) {
            x.row(7, 1, n);
            x.row(6, 1, 3);
            edges.is("drop of " + n, x.drop(7), n);
            edges.is("it is missing", x.set(7, 0, 0), Due.NULL);
            edges.is("the other one is not", x.count(0), 1);
        }
    }

    private void dropOfNoRowIsBad() {
        edges.of("Promise 5", "BAD");
        ThreeRiddles x = new ThreeRiddles();
        x.row(0, 0, 1);
        x.row(7, 0, 2);
        for (int row : new int[] {-1, 8, MAX, MIN}) {
            edges.is("drop(" + row + ")", x.drop(row), Due.BAD);
        }
        edges.is("drop(0)", x.drop(0), 1);
        edges.is("drop(7)", x.drop(7), 2);
    }

    private void dropOfAMissingRowIsNull() {
        edges.of("Promise 5", "NULL");
        ThreeRiddles x = withRow(0, 2);
        edges.is("never there", x.drop(1), Due.NULL);
        edges.is("there", x.drop(0), 2);
        edges.is("gone", x.drop(0), Due.NULL);
    }
}
