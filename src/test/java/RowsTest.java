/** Promises 2 to 5, and 31 as far as ROWS go. */
public final class RowsTest {
    private static final Due due = new Due();

    public static void main(String[] args) {
        rowIsLaid();
        rowIsRefused();
        itemsAreCutToTheirLane();
        setIsRefused();
        copyMoves();
        copyIsRefusedInOrder();
        rowIsDropped();
        statusStaysOverRefusals();
        due.end();
    }

    private static void rowIsLaid() {
        ThreeRiddles x = new ThreeRiddles();
        due.is("no row", x.count(0), 0);
        due.is("row(0, 0, 0)", x.row(0, 0, 0), 0);
        due.is("row(7, 2, 40)", x.row(7, 2, 40), 40);
        due.is("two rows", x.count(0), 2);
        due.is("last place", x.set(7, 39, 5), 5);
        due.is("row(7, 1, 3) in its place", x.row(7, 1, 3), 3);
        due.is("still two rows", x.count(0), 2);
        due.is("shorter now", x.set(7, 3, 1), Due.PLACE);
        due.is("longer again", x.row(7, 2, 40), 40);
        Due.read(x, "k0,0;t1;t2;p1,0;p2,0;w3;");
        due.is("its items are 0 again: by said, riddle 0", x.said(0, 7, 39, 1, 1), 1);
    }

    private static void rowIsRefused() {
        ThreeRiddles x = new ThreeRiddles();
        due.is("row -1", x.row(-1, 0, 1), Due.BAD);
        due.is("row 8", x.row(8, 0, 1), Due.BAD);
        due.is("lane -1", x.row(0, -1, 1), Due.BAD);
        due.is("lane 3", x.row(0, 3, 1), Due.BAD);
        due.is("41 items", x.row(0, 0, 41), Due.BAD);
        due.is("the most", x.row(0, 0, Integer.MAX_VALUE), Due.BAD);
        due.is("fewer than none", x.row(0, 0, -1), Due.SIZE);
        due.is("the least", x.row(0, 0, Integer.MIN_VALUE), Due.SIZE);
        due.is("BAD ahead of SIZE", x.row(8, 0, -1), Due.BAD);
        due.is("BAD ahead of SIZE by the lane", x.row(0, 3, -1), Due.BAD);
        due.is("no row came of these", x.count(0), 0);
        x.row(0, 1, 2);
        x.row(0, 0, -1);
        due.is("what is found changes nothing", x.set(0, 1, 300), 300);
    }

    private static void itemsAreCutToTheirLane() {
        ThreeRiddles x = new ThreeRiddles();
        x.row(0, 0, 1);
        x.row(1, 1, 1);
        x.row(2, 2, 1);
        due.is("byte 127", x.set(0, 0, 127), 127);
        due.is("byte 128", x.set(0, 0, 128), -128);
        due.is("byte -129", x.set(0, 0, -129), 127);
        due.is("byte 256", x.set(0, 0, 256), 0);
        due.is("short 32767", x.set(1, 0, 32767), 32767);
        due.is("short 32768", x.set(1, 0, 32768), -32768);
        due.is("short -32769", x.set(1, 0, -32769), 32767);
        due.is("int max", x.set(2, 0, Integer.MAX_VALUE), Integer.MAX_VALUE);
        due.is("int min", x.set(2, 0, Integer.MIN_VALUE), Integer.MIN_VALUE);
    }

    private static void setIsRefused() {
        ThreeRiddles x = new ThreeRiddles();
        x.row(0, 0, 2);
        due.is("row -1", x.set(-1, 0, 0), Due.BAD);
        due.is("row 8", x.set(8, 0, 0), Due.BAD);
        due.is("missing", x.set(1, 0, 0), Due.NULL);
        due.is("missing ahead of no place", x.set(1, -1, 0), Due.NULL);
        due.is("place -1", x.set(0, -1, 0), Due.PLACE);
        due.is("place 2", x.set(0, 2, 0), Due.PLACE);
        due.is("place max", x.set(0, Integer.MAX_VALUE, 0), Due.PLACE);
        due.is("place min", x.set(0, Integer.MIN_VALUE, 0), Due.PLACE);
        x.row(2, 0, 0);
        due.is("no place in an empty row", x.set(2, 0, 0), Due.PLACE);
    }

    private static void copyMoves() {
        ThreeRiddles x = Due.told("k0,0;t1;t2;t4;p1,0;p2,0;p4,0;w7;");
        x.row(0, 0, 4);
        x.set(0, 0, 0);
        x.set(0, 1, 1);
        x.set(0, 2, 2);
        due.is("up within a row", x.copy(0, 0, 0, 1, 3), 3);
        due.is("0 0 1 2: first", x.said(0, 0, 0, 1, 1), 1);
        due.is("0 0 1 2: second", x.said(0, 0, 1, 1, 1), 1);
        due.is("0 0 1 2: third", x.said(0, 0, 2, 1, 1), 2);
        due.is("0 0 1 2: last", x.said(0, 0, 3, 1, 1), 4);
        due.is("down within a row", x.copy(0, 1, 0, 0, 3), 3);
        due.is("0 1 2 2: second", x.said(0, 0, 1, 1, 1), 2);
        due.is("0 1 2 2: third", x.said(0, 0, 2, 1, 1), 4);
        x.row(7, 0, 2);
        due.is("to another row", x.copy(0, 1, 7, 0, 2), 2);
        due.is("it is there", x.said(0, 7, 0, 2, 1), 6);
        due.is("nothing, at both ends", x.copy(0, 4, 7, 2, 0), 0);
        due.is("all", x.copy(7, 0, 7, 0, 2), 2);
    }

    private static void copyIsRefusedInOrder() {
        ThreeRiddles x = new ThreeRiddles();
        x.row(0, 0, 4);
        x.row(1, 1, 4);
        x.row(3, 0, 2);
        due.is("a -1", x.copy(-1, 0, 0, 0, 0), Due.BAD);
        due.is("a 8", x.copy(8, 0, 0, 0, 0), Due.BAD);
        due.is("b -1", x.copy(0, 0, -1, 0, 0), Due.BAD);
        due.is("b 8", x.copy(0, 0, 8, 0, 0), Due.BAD);
        due.is("BAD ahead of NULL", x.copy(2, 0, 8, 0, 0), Due.BAD);
        due.is("a missing", x.copy(2, 0, 0, 0, 0), Due.NULL);
        due.is("b missing", x.copy(0, 0, 2, 0, 0), Due.NULL);
        due.is("NULL ahead of PLACE", x.copy(2, -1, 0, 9, -1), Due.NULL);
        due.is("two lanes", x.copy(0, 0, 1, 0, 1), Due.STORE);
        due.is("two lanes, nothing moved", x.copy(0, 0, 1, 0, 0), Due.STORE);
        due.is("STORE ahead of PLACE", x.copy(0, -1, 1, 9, -1), Due.STORE);
        due.is("i below 0", x.copy(0, -1, 3, 0, 1), Due.PLACE);
        due.is("j below 0", x.copy(0, 0, 3, -1, 1), Due.PLACE);
        due.is("n below 0", x.copy(0, 0, 3, 0, -1), Due.PLACE);
        due.is("n least", x.copy(0, 0, 3, 0, Integer.MIN_VALUE), Due.PLACE);
        due.is("beyond a", x.copy(3, 1, 0, 0, 2), Due.PLACE);
        due.is("beyond b", x.copy(0, 0, 3, 1, 2), Due.PLACE);
        due.is("i beyond, n 0", x.copy(0, 5, 3, 0, 0), Due.PLACE);
        due.is("i and n overflow", x.copy(0, Integer.MAX_VALUE, 3, 0, Integer.MAX_VALUE), Due.PLACE);
        due.is("j and n overflow", x.copy(0, 0, 3, Integer.MAX_VALUE, 2), Due.PLACE);
    }

    private static void rowIsDropped() {
        ThreeRiddles x = new ThreeRiddles();
        x.row(5, 2, 9);
        due.is("row -1", x.drop(-1), Due.BAD);
        due.is("row 8", x.drop(8), Due.BAD);
        due.is("drop", x.drop(5), 9);
        due.is("no row", x.count(0), 0);
        due.is("missing", x.drop(5), Due.NULL);
        due.is("missing for set", x.set(5, 0, 0), Due.NULL);
        x.row(5, 2, 0);
        due.is("an empty one", x.drop(5), 0);
    }

    private static void statusStaysOverRefusals() {
        ThreeRiddles x = Due.told(Due.COURT);
        due.is("none yet", x.status(), 0);
        x.row(0, 0, -1);
        due.is("SIZE", x.status(), 4);
        x.row(9, 0, 1);
        x.set(9, 0, 1);
        x.copy(9, 0, 0, 0, 0);
        x.drop(9);
        x.said(9, 0, 0, 1, 0);
        x.as(9, 0);
        due.is("BAD leaves it", x.status(), 4);
        x.undo();
        x.ask(0, 0);
        x.count(0);
        x.trace(99);
        Due.read(x, Due.COURT);
        Due.read(x, "k");
        x.image(0);
        x.restore(0);
        due.is("other calls leave it", x.status(), 4);
        x.row(0, 0, 1);
        due.is("row clears it", x.status(), 0);
        x.set(1, 0, 0);
        due.is("NULL", x.status(), 1);
        x.set(0, 0, 9);
        due.is("set clears it", x.status(), 0);
        x.set(0, 1, 0);
        due.is("PLACE", x.status(), 2);
        due.is("said, an item that is no thing", x.said(0, 0, 0, 1, 0), Due.BAD);
        due.is("leaves it as well", x.status(), 2);
        x.copy(0, 0, 0, 0, 1);
        due.is("copy clears it", x.status(), 0);
        x.row(1, 1, 1);
        x.copy(0, 0, 1, 0, 1);
        due.is("STORE", x.status(), 5);
        x.drop(1);
        due.is("drop clears it", x.status(), 0);
        x.as(0, 4);
        due.is("KIND", x.status(), 3);
        x.as(0, 1);
        due.is("as clears it", x.status(), 0);
        x.said(0, 1, 0, 1, 0);
        due.is("said NULL", x.status(), 1);
        x.said(0, 0, 1, 1, 0);
        due.is("said PLACE", x.status(), 2);
        x.set(0, 0, 1);
        x.set(3, 0, 1);
        x.said(0, 0, 0, 1, 0);
        due.is("said clears it", x.status(), 0);
    }
}
