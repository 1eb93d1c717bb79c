/** Promises 1, 6, 7, 8, 13 and what a text tells. */
public final class CourtTest {
    private static final Due due = new Due();

    public static void main(String[] args) {
        newObjectHasNoCourt();
        tapeFills();
        textsAreRead();
        textsHaveFaults();
        roomIsMeasured();
        aFaultLeavesTheCourt();
        aCourtStandsInPlaceOfAnother();
        due.end();
    }

    private static void newObjectHasNoCourt() {
        ThreeRiddles x = new ThreeRiddles();
        for (int what = 0; what < 10; what++) {
            due.is("count(" + what + ")", x.count(what), 0);
        }
        due.is("count(-1)", x.count(-1), Due.BAD);
        due.is("count(10)", x.count(10), Due.BAD);
        due.is("hard ahead of BAD", x.hard(9, 9), Due.STATE);
        due.is("tree ahead of BAD", x.tree(-1, 9), Due.STATE);
        due.is("beats", x.beats(), Due.STATE);
        due.is("image", x.image(0), Due.STATE);
        due.is("image BAD first", x.image(-1), Due.BAD);
        due.is("restore", x.restore(1), Due.STATE);
        due.is("undo", x.undo(), Due.STATE);
        due.is("chance", x.chance(0, 0), Due.BAD);
        due.is("thing", x.thing(0), Due.BAD);
        due.is("fault", x.fault(), 0);
        due.is("status", x.status(), 0);
        due.is("trace", x.trace(0), Due.NONE);
    }

    private static void tapeFills() {
        ThreeRiddles x = new ThreeRiddles();
        due.is("feed(-1)", x.feed(-1), Due.BAD);
        due.is("feed(256)", x.feed(256), Due.BAD);
        due.is("feed(0)", x.feed(0), 1);
        due.is("feed(255)", x.feed(255), 2);
        for (int i = 3; i <= 120; i++) {
            due.is("feed " + i, x.feed('k'), i);
        }
        due.is("feed 121", x.feed('k'), Due.FULL);
        due.is("BAD ahead of FULL", x.feed(256), Due.BAD);
        due.is("120 bytes", x.count(9), 120);
        due.is("byte 0 is no token", x.court(), Due.FAULT);
        due.is("empty again", x.count(9), 0);
        due.is("feed anew", x.feed('k'), 1);
    }

    private static void textsAreRead() {
        ThreeRiddles x = new ThreeRiddles();
        due.is("the least court", Due.read(x, "k0,0;"), 0);
        due.is("its tree", x.tree(0, 0), 0);
        due.is("no set of things", x.tree(1, 0), Due.BAD);
        due.is("with noughts ahead", Due.read(x, "k007,099;t001;t031;w003;"), 1);
        due.is("SHE, of told things", x.count(7), 3);
        due.is("thing 0", x.thing(0), 1);
        due.is("thing 1", x.thing(1), 31);
        due.is("thing 2", x.thing(2), Due.BAD);
        due.is("thing -1", x.thing(-1), Due.BAD);
        due.is("things alone", Due.read(x, "k255,0;t0;"), 0);
        due.is("SHE", x.count(7), 1);
        due.is("riddles alone", Due.read(x, "k255,0;p0,0;"), 0);
        due.is("SHE, nothing told", x.count(7), 0);
        due.is("count of riddles", x.count(2), 1);
        due.is("suitors alone", Due.read(x, "k0,0;w0;w0;"), 2);
        due.is("count of things", x.count(1), 0);
        due.is("count of riddles", x.count(2), 0);
        due.is("count of suitors", x.count(3), 2);
        due.is("no fault yet", x.fault(), 0);
    }

    private static void textsHaveFaults() {
        faulty("", 0, 1);
        faulty("k", 1, 1);
        faulty("K0,0;", 0, 1);
        faulty(" k0,0;", 0, 1);
        faulty("k 0,0;", 1, 1);
        faulty("k,0;", 1, 1);
        faulty("k256,0;", 1, 2);
        faulty("k999", 1, 2);
        faulty("k1234,0;", 1, 1);
        faulty("k0000,0;", 1, 1);
        faulty("k0,100;", 3, 2);
        faulty("k0,1000;", 3, 1);
        faulty("k0;", 2, 1);
        faulty("k0,0,", 4, 1);
        faulty("k0,0", 4, 1);
        faulty("k0,0;k0,0;", 5, 1);
        faulty("k0,0;t", 6, 1);
        faulty("k0,0;t32;", 6, 2);
        faulty("k0,0;t32", 6, 2);
        faulty("k0,0;t3", 7, 1);
        faulty("k0,0;t3,", 7, 1);
        faulty("k0,0;5", 5, 1);
        faulty("k0,0;;", 5, 1);
        faulty("k0,0;e0,0;", 5, 1);
        faulty("k0,0;p32,0;", 6, 2);
        faulty("k0,0;p1,32;", 8, 2);
        faulty("k0,0;p1,1;", 8, 2);
        faulty("k0,0;u6,12;", 8, 2);
        faulty("k0,0;d1;", 7, 1);
        faulty("k0,0;g,1;", 6, 1);
        faulty("k0,0;l1,2", 9, 1);
        faulty("k0,0;p0,0;t1;", 10, 1);
        faulty("k0,0;w0;t1;", 8, 1);
        faulty("k0,0;w0;p0,0;", 8, 1);
        faulty("k0,0;w1;", 6, 2);
        faulty("k0,0;t1;t1;w3;w4;", 15, 2);
        faulty("k0,0;t1;t1;w3;w", 15, 1);
        faulty("k0,0;w0;x", 8, 1);
        faulty("k0,0;" + (char) 255, 5, 1);
    }

    private static void roomIsMeasured() {
        String things = "t0;t1;t2;t3;t4;t5;t6;t7;";
        String riddles = "p0,0;d0,0;g0,0;l0,0;u0,0;p0,0;";
        String suitors = "w255;w0;w1;w2;";
        ThreeRiddles x = new ThreeRiddles();
        due.is("all that there is room for", Due.read(x, "k255,99;" + things + riddles + suitors), 4);
        due.is("8 things", x.count(1), 8);
        due.is("6 riddles", x.count(2), 6);
        due.is("SHE", x.count(7), 255);
        faulty("k0,0;" + things + "t", 29, 3);
        faulty("k0,0;" + things + "t99;", 29, 3);
        faulty("k0,0;" + riddles + "p", 35, 3);
        faulty("k0,0;" + riddles + "u99", 35, 3);
        faulty("k0,0;w0;w0;w0;w0;w", 17, 3);
        faulty("k0,0;" + riddles + "t", 35, 1);
        faulty("k0,0;w0;w0;w0;w0;p", 17, 1);
        faulty("k0,0;" + things + "p1,1;t", 32, 2);
        faulty("k0,0;" + things + "w256;", 30, 2);
    }

    private static void faulty(String text, int place, int number) {
        ThreeRiddles x = Due.told(Due.COURT);
        due.is("court() of " + text, Due.read(x, text), Due.FAULT - place);
        due.is("fault() of " + text, x.fault(), number);
        due.is("the tape behind " + text, x.count(9), 0);
        due.is("things behind " + text, x.count(1), 6);
    }

    private static void aFaultLeavesTheCourt() {
        ThreeRiddles x = Due.told(Due.COURT);
        x.buy(3, 0);
        x.asked(3, 1);
        Due.read(x, "k255,0;t31;t31;p31,0;w3;w0");
        due.is("fault", x.fault(), 1);
        due.is("things", x.count(1), 6);
        due.is("trait", x.thing(0), 3);
        due.is("riddles", x.count(2), 6);
        due.is("yes", x.riddle(0, 0), 1);
        due.is("suitors", x.count(3), 4);
        due.is("used", x.count(4), 2);
        due.is("paid", x.count(6), 14);
        due.is("SHE", x.count(7), 21);
        due.is("acts", x.count(8), 2);
        due.is("right", x.suitor(3, 2), 1);
        due.is("a court that is read", Due.read(x, "k0,0;"), 0);
        due.is("the latest fault stays", x.fault(), 1);
        Due.read(x, "k256");
        due.is("the latest fault", x.fault(), 2);
    }

    private static void aCourtStandsInPlaceOfAnother() {
        ThreeRiddles x = Due.told(Due.COURT);
        x.row(0, 0, 3);
        x.image(1);
        x.ask(0, 1);
        x.buy(3, 0);
        x.inTurn(3, 1);
        x.asked(1, 2);
        x.asked(0, 0);
        due.is("one is dead", x.count(5), 1);
        due.is("one was right", x.suitor(0, 2), 1);
        due.is("read again", Due.read(x, Due.COURT), 4);
        due.is("none was used", x.count(4), 0);
        due.is("none is dead", x.count(5), 0);
        due.is("nothing was paid", x.count(6), 0);
        due.is("no act", x.count(8), 0);
        due.is("undo", x.undo(), Due.STATE);
        due.is("he comes", x.suitor(1, 1), 0);
        due.is("he was never right", x.suitor(0, 2), 0);
        due.is("he asked none", x.suitor(3, 3), 0);
        due.is("he knows nothing", x.suitor(3, 0), 0);
        due.is("rows stay", x.count(0), 1);
        due.is("the trace stays", x.trace(0), 21);
        Due.read(x, "k0,0;");
        due.is("images stay", x.restore(1), 1);
        due.is("its suitors", x.count(3), 4);
    }
}
