/** KINDS, ASKS, THE TRACE, counts and status(): their part of the terms, and promises 26 to 31. */
final class EdgeAsked {
    private static final int MAX = Integer.MAX_VALUE, MIN = Integer.MIN_VALUE;

    private final Edges edges;

    EdgeAsked(Edges edges) {
        this.edges = edges;
    }

    void run() {
        kindsAreOfOneAnother();
        sizesAndMarks();
        bodiesOfSize();
        bodiesOfMark();
        theNearestBodyBegins();
        kindTells();
        asAnswers();
        askAnswers();
        traceTells();
        countTells();
        countIsBad();
        statusIsOfTheLatestCallWithARow();
        statusStaysOverRefusals();
        statusIsNoneAtFirst();
    }

    private void kindsAreOfOneAnother() {
        String[] words = {"KINDS of RIDDLES: 0 RIDDLE;", "1 PLAIN, a RIDDLE;", "2 DOUBLE, a PLAIN one;",
            "3 SUNG, a PLAIN one;", "4 LYING, a RIDDLE;", "5 UNFAIR, a LYING one."};
        String[] are = {"pdglu", "pdg", "d", "g", "lu", "u"};
        for (int kind = 0; kind < 6; kind++) {
            edges.of("Terms 3", words[kind]);
            for (int sort = 0; sort < 5; sort++) {
                char letter = "pdglu".charAt(sort);
                int want = are[kind].indexOf(letter) < 0 ? Due.KIND : 0;
                edges.is(letter + " as " + kind, Due.told("k0,0;" + letter + "0,0;").as(0, kind), want);
            }
        }
        edges.of("Terms 3", "By this it is asked.");
        edges.is("a sung one by 11", Due.told("k0,0;g0,0;").ask(0, 0), -1000);
        edges.is("a double one by 24", Due.told("k0,0;d5,0;").ask(0, 1), 10);
        edges.is("an unfair one by 23", Due.told("k0,0;u0,0;").ask(0, 1), 200);
    }

    /** An ask, what it gives, and THE TRACE behind it. */
    private void asks(String text, int riddle, int what, int gives, int... trace) {
        ThreeRiddles x = Due.told(text);
        String call = "ask(" + riddle + ", " + what + ") in " + text;
        edges.is(call, x.ask(riddle, what), gives);
        for (int i = 0; i < trace.length; i++) {
            edges.is(call + ", trace " + i, x.trace(i), trace[i]);
        }
        for (int i = trace.length; i < 17; i++) {
            edges.is(call + ", trace " + i, x.trace(i), Due.NONE);
        }
    }

    private static final String EIGHT = "k0,0;t0;t1;t2;t3;t4;t5;t6;t7;";

    private void sizesAndMarks() {
        edges.of("Terms 4", "ASKS of RIDDLES, by BODIES, each of which leaves its number in THE TRACE "
                + "as it begins (the first 16):");
        asks(EIGHT + "d1,2;", 0, 0, -(4 + 2), 12, 11, 10, 24, 21, 20);
        asks(EIGHT + "u1,2;", 0, 1, 0 - 2 * (2 - 100), 23, 20, 14, 13, 10);
        ThreeRiddles x = Due.told(EIGHT + "d1,2;l0,0;");
        for (int time = 0; time < 4; time++) {
            x.ask(0, 0);
            edges.is("asked again, no longer", x.trace(6), Due.NONE);
            edges.is("asked again, first", x.trace(0), 12);
        }
        edges.of("Terms 4", "0 SIZE: 10 lent to all RIDDLES: how many THINGS FIT.");
        asks("k0,0;l0,0;", 0, 0, 0 - 100, 13, 10);
        asks(EIGHT + "l8,0;", 0, 0, 8 - 100, 13, 10);
        asks(EIGHT + "l0,0;", 0, 0, 0 - 100, 13, 10);
        edges.of("Terms 4", "1 MARK: 20 lent to all RIDDLES: the number.");
        asks("k0,0;" + "p0,0;".repeat(6), 0, 1, 0, 21, 20);
        asks("k0,0;" + "p0,0;".repeat(6), 5, 1, 5, 21, 20);
    }

    private void bodiesOfSize() {
        edges.of("Terms 4", "11 of PLAIN ones: what 10 gives, and MARK.");
        asks(EIGHT + "l0,0;p1,2;", 1, 0, 2 + 1 + 1, 11, 10, 21, 20);
        asks(EIGHT + "p31,0;", 0, 0, 31, 11, 10, 21, 20);
        edges.of("Terms 4", "12 of DOUBLE ones: 0 less what 11 gives.");
        asks(EIGHT + "l0,0;d1,2;", 1, 0, -(4 + 2 * (1 + 1)), 12, 11, 10, 24, 21, 20);
        asks("k0,0;d0,0;", 0, 0, 0, 12, 11, 10, 24, 21, 20);
        edges.of("Terms 4", "13 of LYING ones: what 10 gives, less 100.");
        asks(EIGHT + "l1,2;", 0, 0, 6 - 100, 13, 10);
        edges.of("Terms 4", "14 of UNFAIR ones: twice what 13 gives (asked once).");
        asks(EIGHT + "u1,2;", 0, 0, 2 * (2 - 100), 14, 13, 10);
        asks("k0,0;u0,0;", 0, 0, -200, 14, 13, 10);
    }

    private void bodiesOfMark() {
        edges.of("Terms 4", "21 of PLAIN ones: what 20 gives, and YES.");
        asks(EIGHT + "l0,0;p31,0;", 1, 1, 1 + 31, 21, 20);
        asks(EIGHT + "l0,0;p0,31;", 1, 1, 1, 21, 20);
        edges.of("Terms 4", "22 of SUNG ones: what 21 gives, less 1000.");
        asks(EIGHT + "l0,0;g6,1;", 1, 1, 1 + 6 - 1000, 22, 21, 20);
        edges.of("Terms 4", "23 of LYING ones: what 20 gives, less SIZE.");
        asks(EIGHT + "p0,0;l1,2;", 1, 1, 1 - (6 - 100), 23, 20, 13, 10);
        edges.of("Terms 4", "24 of DOUBLE ones: twice what 21 gives (asked once).");
        asks(EIGHT + "p0,0;d6,1;", 1, 1, 2 * (1 + 6), 24, 21, 20);
    }

    private void theNearestBodyBegins() {
        edges.of("Terms 4", "(Of an ask the BODY told for the KIND begins, else that of the nearest KIND that it is, "
                + "too, else the one that is lent; SIZE, MARK within others are asked of the same RIDDLE anew.)");
        asks(EIGHT + "g6,1;", 0, 0, 3 + 6 - 1000, 11, 10, 22, 21, 20);
        asks(EIGHT + "p0,0;u1,2;", 1, 1, 1 - 2 * (2 - 100), 23, 20, 14, 13, 10);
        asks(EIGHT + "d1,0;", 0, 0, -(8 + 2), 12, 11, 10, 24, 21, 20);
    }

    private void kindTells() {
        edges.of("Promise 26", "The KIND of a RIDDLE, as told (1 to 5).");
        ThreeRiddles x = Due.told("k0,0;p0,0;d0,0;g0,0;l0,0;u0,0;p0,0;");
        int[] kinds = {1, 2, 3, 4, 5, 1};
        for (int riddle = 0; riddle < 6; riddle++) {
            edges.is("kind " + riddle, x.kind(riddle), kinds[riddle]);
        }
        edges.of("Promise 26", "BAD.");
        for (int riddle : new int[] {-1, 6, MAX, MIN}) {
            edges.is("kind " + riddle, x.kind(riddle), Due.BAD);
        }
        edges.is("no court", new ThreeRiddles().kind(0), Due.BAD);
        edges.is("no riddle", Due.told("k0,0;t0;w0;").kind(0), Due.BAD);
    }

    private void asAnswers() {
        edges.of("Promise 27", "A RIDDLE is taken as one of a KIND (0 .. 5): the RIDDLE's number.");
        ThreeRiddles x = Due.told("k0,0;p0,0;d0,0;g0,0;l0,0;u0,0;p0,0;");
        int[] kinds = {1, 2, 3, 4, 5, 1};
        for (int riddle = 0; riddle < 6; riddle++) {
            edges.is("as a riddle, " + riddle, x.as(riddle, 0), riddle);
            edges.is("as what it is, " + riddle, x.as(riddle, kinds[riddle]), riddle);
            edges.is("it stays that", x.kind(riddle), kinds[riddle]);
        }
        edges.of("Promise 27", "BAD;");
        for (int out : new int[] {-1, 6, MAX, MIN}) {
            edges.is("riddle " + out, x.as(out, 0), Due.BAD);
            edges.is("kind " + out, x.as(0, out), Due.BAD);
        }
        edges.is("no court", new ThreeRiddles().as(0, 0), Due.BAD);
        edges.of("Promise 27", "KIND: it is no such one.");
        edges.is("a plain one as a double one", x.as(0, 2), Due.KIND);
        edges.is("a plain one as a sung one", x.as(0, 3), Due.KIND);
        edges.is("a double one as a sung one", x.as(1, 3), Due.KIND);
        edges.is("a lying one as a plain one", x.as(3, 1), Due.KIND);
        edges.is("a lying one as an unfair one", x.as(3, 5), Due.KIND);
        edges.is("an unfair one as a plain one", x.as(4, 1), Due.KIND);
        edges.is("the last one as a lying one", x.as(5, 4), Due.KIND);
    }

    private void askAnswers() {
        edges.of("Promise 28", "An ASK (0, 1) of a RIDDLE.");
        ThreeRiddles x = Due.told("k0,0;t1;p1,0;u1,0;p0,0;l1,0;g1,0;d1,0;");
        int[] sizes = {2, -200, 3, -100, 1 + 5 - 1000, -(1 + 12)};
        int[] marks = {1, 201, 2, 103, 5 - 1000, 12};
        for (int riddle = 0; riddle < 6; riddle++) {
            edges.is("SIZE of " + riddle, x.ask(riddle, 0), sizes[riddle]);
            edges.is("MARK of " + riddle, x.ask(riddle, 1), marks[riddle]);
        }
        edges.of("Promise 28", "BAD (THE TRACE stays then).");
        x.ask(1, 0);
        for (int out : new int[] {-1, 6, MAX, MIN}) {
            edges.is("riddle " + out, x.ask(out, 0), Due.BAD);
            edges.is("what " + out, x.ask(0, out), Due.BAD);
            edges.is("riddle " + out + ", 1", x.ask(out, 1), Due.BAD);
        }
        edges.is("what 2", x.ask(0, 2), Due.BAD);
        int[] trace = {14, 13, 10, Due.NONE};
        for (int i = 0; i < 4; i++) {
            edges.is("trace " + i, x.trace(i), trace[i]);
        }
        ThreeRiddles none = new ThreeRiddles();
        edges.is("no court", none.ask(0, 0), Due.BAD);
        edges.is("no trace", none.trace(0), Due.NONE);
        edges.of("Promise 28", "THE TRACE is empty ahead of it.");
        x.ask(5, 0);
        edges.is("six", x.trace(5), 20);
        x.ask(0, 1);
        edges.is("two", x.trace(1), 20);
        edges.is("no third", x.trace(2), Due.NONE);
        edges.is("no sixth", x.trace(5), Due.NONE);
    }

    private void traceTells() {
        edges.of("Promise 29", "Number i of THE TRACE; NONE.");
        ThreeRiddles x = Due.told("k0,0;d0,0;");
        edges.is("none yet", x.trace(0), Due.NONE);
        x.ask(0, 0);
        int[] trace = {12, 11, 10, 24, 21, 20};
        for (int i = 0; i < 6; i++) {
            edges.is("trace " + i, x.trace(i), trace[i]);
        }
        for (int i : new int[] {-1, 6, 7, 15, 16, 17, MAX, MIN}) {
            edges.is("trace " + i, x.trace(i), Due.NONE);
        }
        x.image(0);
        Due.read(x, "k0,0;");
        edges.is("behind another court", x.trace(0), 12);
        x.restore(0);
        edges.is("behind a court restored", x.trace(5), 20);
    }

    private void counts(int what, String words, ThreeRiddles x, int want) {
        edges.of("Promise 30", words);
        edges.is("count(" + what + ")", x.count(what), want);
        edges.is("count(" + what + ") of a new object", new ThreeRiddles().count(what), 0);
    }

    private void countTells() {
        ThreeRiddles x = Due.told(Due.COURT);
        for (int row = 0; row < 8; row++) {
            x.row(row, row % 3, 0);
        }
        counts(0, "How many: 0 ROWS", x, 8);
        x.row(3, 0, 4);
        edges.is("one in place of another", x.count(0), 8);
        x.drop(0);
        x.drop(7);
        edges.is("two dropped", x.count(0), 6);
        ThreeRiddles full = Due.told("k255,0;t0;t1;t2;t3;t4;t5;t6;t7;p0,0;p0,0;p0,0;p0,0;p0,0;p0,0;w0;w0;w0;w0;");
        counts(1, "1 THINGS", full, 8);
        counts(2, "2 RIDDLES", full, 6);
        counts(3, "3 SUITORS", full, 4);
        counts(7, "7 SHE (bits of THINGS that are told)", full, 255);
        for (int suitor = 0; suitor < 4; suitor++) {
            edges.is("dead so far", full.count(5), suitor);
            full.asked(suitor, suitor);
        }
        counts(5, "5 SUITORS who are DEAD", full, 4);
        full.undo();
        edges.is("a head undone", full.count(5), 3);
        full.inTurn(3, 4);
        full.undo();
        full.buy(3, 0);
        full.asked(3, 4);
        full.asked(3, 5);
        full.undo();
        counts(4, "4 RIDDLES that were USED (bits)", full, 7 + 16);
        ThreeRiddles free = Due.told("k0,0;t1;p1,0;w0;");
        free.inTurn(0, 0);
        edges.is("the free are not dead", free.count(5), 0);
        edges.is("used in turn", free.count(4), 1);
        x.buy(3, 0);
        x.buy(3, 1);
        counts(6, "6 what was PAID", x, 14 + 7);
        counts(8, "8 ACTS that can be undone", x, 2);
        x.asked(9, 9);
        edges.is("what was refused is none", x.count(8), 2);
        Due.feed(x, "k0");
        counts(9, "9 bytes on the tape", x, 2);
        edges.is("SHE, of those told", Due.told("k255,0;t0;t0;").count(7), 3);
    }

    private void countIsBad() {
        edges.of("Promise 30", "BAD.");
        ThreeRiddles x = Due.told(Due.COURT);
        for (int what : new int[] {-1, 10, MAX, MIN}) {
            edges.is("count(" + what + ")", x.count(what), Due.BAD);
        }
        edges.is("count(9)", x.count(9), 0);
    }

    private void statusIsOfTheLatestCallWithARow() {
        edges.of("Promise 31", "Of the latest call with a ROW, or as()");
        ThreeRiddles x = Due.told(Due.COURT);
        status("row", x, x.row(0, 0, -1), 4);
        status("row", x, x.row(0, 0, 2), 0);
        status("set", x, x.set(1, 0, 0), 1);
        status("set", x, x.set(0, 0, 0), 0);
        status("set", x, x.set(0, 2, 0), 2);
        status("copy", x, x.copy(0, 0, 0, 1, 1), 0);
        status("copy", x, x.copy(0, 0, 0, 2, 1), 2);
        status("drop", x, x.drop(1), 1);
        x.row(1, 1, 1);
        status("copy", x, x.copy(0, 0, 1, 0, 1), 5);
        status("drop", x, x.drop(1), 0);
        status("as", x, x.as(0, 5), 3);
        status("as", x, x.as(0, 1), 0);
        status("said", x, x.said(0, 1, 0, 1, 0), 1);
        status("said", x, x.said(0, 0, 2, 1, 0), 2);
        status("said", x, x.said(0, 0, 0, 1, 0), 0);
        status("said", x, x.said(3, 0, 0, 1, 1) + x.said(0, 0, 2, 1, 0), 2);
        status("said, in no way", x, x.said(3, 0, 0, 1, 1), 0);
    }

    private void status(String call, ThreeRiddles x, int answer, int want) {
        edges.is(call + " answered " + answer + ", status()", x.status(), want);
        edges.is("and again", x.status(), want);
    }

    private void statusStaysOverRefusals() {
        edges.of("Promise 31", ", that was not BAD, STATE, FULL: the number of its FINDING;");
        ThreeRiddles x = Due.told(Due.COURT);
        x.row(0, 0, 1);
        x.row(1, 1, 1);
        x.set(0, 0, 6);
        x.copy(0, 0, 1, 0, 1);
        status("row, BAD", x, x.row(8, 0, 1), 5);
        status("row of 41, BAD", x, x.row(0, 0, 41), 5);
        status("set, BAD", x, x.set(8, 0, 1), 5);
        status("copy, BAD", x, x.copy(0, 0, 8, 0, 1), 5);
        status("drop, BAD", x, x.drop(-1), 5);
        status("said, BAD", x, x.said(4, 0, 0, 1, 0), 5);
        status("said of an item, BAD", x, x.said(0, 0, 0, 1, 0), 5);
        status("as, BAD", x, x.as(6, 0), 5);
        status("undo, STATE", x, x.undo(), 5);
        status("restore, STATE", x, x.restore(0), 5);
        status("asked", x, x.asked(0, 0), 5);
        status("buy", x, x.buy(3, 0), 5);
        status("ask", x, x.ask(0, 0), 5);
        status("tree", x, x.tree(3, 0), 5);
        status("chance", x, x.chance(0, 0), 5);
        status("image", x, x.image(0), 5);
        status("restore", x, x.restore(0), 5);
        status("count", x, x.count(0), 5);
        status("a court", x, Due.read(x, "k0,0;"), 5);
        status("a fault", x, Due.read(x, "k"), 5);
        for (int i = 0; i < 121; i++) {
            x.feed('k');
        }
        status("feed, FULL", x, x.feed('k'), 5);
    }

    private void statusIsNoneAtFirst() {
        edges.of("Promise 31", "0: it had none, or there was none.");
        ThreeRiddles x = new ThreeRiddles();
        status("none", x, 0, 0);
        status("BAD", x, x.row(8, 0, 0), 0);
        status("STATE", x, x.undo(), 0);
        status("as, BAD", x, x.as(0, 0), 0);
        status("NULL", x, x.drop(0), 1);
        status("none", x, x.row(0, 0, 0), 0);
    }
}
