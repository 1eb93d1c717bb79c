import java.util.function.Consumer;
import java.util.function.ToIntFunction;

/** What the terms say of all calls: the refusals, their order, and that they change nothing. */
final class EdgeTerms {
    private static final int MAX = Integer.MAX_VALUE, MIN = Integer.MIN_VALUE;

    private final Edges edges;

    EdgeTerms(Edges edges) {
        this.edges = edges;
    }

    void run() {
        newObjectHasNoCourt();
        numbersGoFromNoughtOn();
        fractionsAreInLowestTerms();
        setsAreBits();
        refusalsComeInOrder();
        findingsHaveTheirNumbers();
        ofSeveralFindingsTheFirstInTime();
        refusedOfANewObject();
        refusedOfACourt();
        refusedOfAWedding();
        refusedOfAFullTape();
        foundOfRows();
        foretoldChangesNothing();
    }

    private void newObjectHasNoCourt() {
        edges.of("Promise 1", "No COURT.");
        ThreeRiddles x = new ThreeRiddles();
        for (int what = 0; what < 10; what++) {
            edges.is("count(" + what + ")", x.count(what), 0);
        }
        edges.is("beats", x.beats(), Due.STATE);
        edges.is("hard", x.hard(1, 0), Due.STATE);
        edges.is("tree", x.tree(0, 0), Due.STATE);
        edges.is("image", x.image(0), Due.STATE);
        edges.is("thing", x.thing(0), Due.BAD);
        edges.is("riddle", x.riddle(0, 0), Due.BAD);
        edges.is("suitor", x.suitor(0, 0), Due.BAD);
        edges.is("kind", x.kind(0), Due.BAD);
        ThreeRiddles empty = Due.told("k0,0;");
        edges.is("a court of nothing is one, beats", empty.beats(), 0);
        edges.is("a court of nothing is one, hard", empty.hard(1, 0), Due.NONE);
        edges.is("a court of nothing is one, tree", empty.tree(0, 0), 0);
        edges.is("a court of nothing is one, image", empty.image(0), 1);
    }

    private void numbersGoFromNoughtOn() {
        edges.of("Terms", "Numbers go from 0 on.");
        ThreeRiddles x = Due.told("k0,0;t9;t10;p1,0;d2,0;w1;w2;");
        edges.is("the first thing", x.thing(0), 9);
        edges.is("the second thing", x.thing(1), 10);
        edges.is("the first riddle", x.kind(0), 1);
        edges.is("the second riddle", x.kind(1), 2);
        edges.is("the first suitor", x.suitor(0, 0), 1);
        edges.is("the second suitor", x.suitor(1, 0), 2);
        edges.is("thing 2", x.thing(2), Due.BAD);
        edges.is("riddle 2", x.kind(2), Due.BAD);
        edges.is("suitor 2", x.suitor(2, 0), Due.BAD);
        edges.is("thing -1", x.thing(-1), Due.BAD);
        edges.is("riddle -1", x.kind(-1), Due.BAD);
        edges.is("suitor -1", x.suitor(-1, 0), Due.BAD);
    }

    private void fractionsAreInLowestTerms() {
        edges.of("Terms", "All that is divided is cut towards 0, but fractions, "
                + "told as two numbers in lowest terms (0 is 0 by 1).");
        // Of six RIDDLES he SAYS ANSWER to four: 24 rows of 120.
        ThreeRiddles x = Due.told("k0,0;t1;t2;p1,0;p1,0;p1,0;p1,0;p2,0;p2,0;w1;w0;w3;");
        edges.is("24 by 120, above", x.chance(0, 0), 1);
        edges.is("24 by 120, below", x.chance(0, 1), 5);
        edges.is("0 by 120, above", x.chance(1, 0), 0);
        edges.is("0 by 120, below", x.chance(1, 1), 1);
        edges.is("120 by 120, above", x.chance(2, 0), 1);
        edges.is("120 by 120, below", x.chance(2, 1), 1);
    }

    private void setsAreBits() {
        edges.of("Terms", "Sets are bits.");
        ThreeRiddles x = Due.told("k129,0;t1;t2;t4;t8;t16;t3;t5;t17;p16,0;w136;");
        edges.is("SHE", x.count(7), 1 + 128);
        edges.is("traits", x.thing(7), 1 + 16);
        edges.is("things that fit", x.riddle(0, 2), 16 + 128);
        edges.is("knows", x.suitor(0, 0), 8 + 128);
        edges.is("to buy", x.toBuy(0, 0), 16);
        edges.is("beats", x.beats(), 1);
    }

    private void refusalsComeInOrder() {
        edges.of("Terms", "Refusals are answers, the first of these that fits, but as told: "
                + "BAD (a number is not as told; there is no such thing), STATE (as told), FULL (as told), "
                + "then FINDINGS, ");
        ThreeRiddles x = new ThreeRiddles();
        edges.is("BAD ahead of STATE: image", x.image(2), Due.BAD);
        edges.is("BAD ahead of STATE: restore", x.restore(2), Due.BAD);
        edges.is("as told, STATE ahead of BAD: hard", x.hard(0, 2), Due.STATE);
        edges.is("as told, STATE ahead of BAD: tree", x.tree(-1, 2), Due.STATE);
        edges.is("BAD ahead of NULL: said", x.said(0, 0, 0, 1, 0), Due.BAD);
        edges.is("BAD ahead of SIZE: row", x.row(-1, 0, -1), Due.BAD);
        edges.is("BAD ahead of NULL: copy", x.copy(0, 0, 8, 0, 0), Due.BAD);
        for (int i = 0; i < 120; i++) {
            x.feed('k');
        }
        edges.is("FULL", x.feed('k'), Due.FULL);
        edges.is("BAD ahead of FULL: feed", x.feed(256), Due.BAD);
        ThreeRiddles y = dead();
        edges.is("BAD ahead of STATE: asked", y.asked(0, 1), Due.BAD);
        edges.is("BAD ahead of STATE: inTurn", y.inTurn(0, 1), Due.BAD);
        edges.is("BAD ahead of STATE: buy", y.buy(0, 1), Due.BAD);
        edges.is("BAD ahead of STATE: chance", y.chance(0, 2), Due.BAD);
        edges.is("BAD ahead of KIND: as", y.as(1, 4), Due.BAD);
        edges.is("as told, BAD behind PLACE: said", y.said(0, 0, 1, 1, 0), Due.PLACE);
        edges.is("as told, BAD behind PLACE: said at its place", y.said(0, 0, 0, 1, 0), Due.BAD);
    }

    /** A SUITOR without a head, and a ROW with an ITEM that is no THING. */
    private static ThreeRiddles dead() {
        ThreeRiddles x = Due.told("k0,0;t1;p1,0;w0;");
        x.asked(0, 0);
        x.row(0, 0, 1);
        x.set(0, 0, 1);
        return x;
    }

    private void findingsHaveTheirNumbers() {
        ThreeRiddles x = Due.told("k0,0;p1,0;");
        edges.of("Terms", "-1000010 less 1 NULL (a ROW that is missing)");
        edges.is("set", x.set(0, 0, 0), -1000011);
        edges.is("status", x.status(), 1);
        edges.of("Terms", "2 PLACE (no such place of a ROW)");
        x.row(0, 0, 1);
        edges.is("set", x.set(0, 1, 0), -1000012);
        edges.is("status", x.status(), 2);
        edges.of("Terms", "3 KIND (a RIDDLE that is not that)");
        edges.is("as", x.as(0, 2), -1000013);
        edges.is("status", x.status(), 3);
        edges.of("Terms", "4 SIZE (fewer than none)");
        edges.is("row", x.row(0, 0, -1), -1000014);
        edges.is("status", x.status(), 4);
        edges.of("Terms", "5 STORE (ROWS of two LANES)");
        x.row(1, 1, 1);
        edges.is("copy", x.copy(0, 0, 1, 0, 0), -1000015);
        edges.is("status", x.status(), 5);
    }

    private void ofSeveralFindingsTheFirstInTime() {
        edges.of("Terms", "of several the first in time:");
        ThreeRiddles x = Due.told("k0,0;w0;");
        x.row(0, 0, 1);
        x.row(1, 1, 1);
        edges.is("set: NULL, PLACE", x.set(2, 9, 0), Due.NULL);
        edges.is("copy: NULL, PLACE", x.copy(0, 9, 2, 9, 9), Due.NULL);
        edges.is("copy: STORE, PLACE", x.copy(0, 9, 1, 9, 9), Due.STORE);
        edges.is("said: NULL, PLACE", x.said(0, 2, 9, 1, 0), Due.NULL);
    }

    // ---- what is refused changes nothing: an object by itself, and its twin that refuses a call

    private void unchanged(Consumer<ThreeRiddles> setup, String call, ToIntFunction<ThreeRiddles> calls, int want) {
        boolean finding = want < -1000010 && want > Due.FAULT;
        for (int view = 0; view < Views.MANY; view++) {
            ThreeRiddles alone = new ThreeRiddles();
            ThreeRiddles twin = new ThreeRiddles();
            setup.accept(alone);
            setup.accept(twin);
            edges.is(call, calls.applyAsInt(twin), want);
            edges.is("status() behind " + call, twin.status(), finding ? -1000010 - want : alone.status());
            boolean alike = Views.of(alone, view).equals(Views.of(twin, view));
            edges.is("all stays behind " + call + ", by view " + view, alike ? 1 : 0, 1);
        }
    }

    private void bad(Consumer<ThreeRiddles> setup, String call, ToIntFunction<ThreeRiddles> calls) {
        unchanged(setup, "BAD " + call, calls, Due.BAD);
    }

    private void state(Consumer<ThreeRiddles> setup, String call, ToIntFunction<ThreeRiddles> calls) {
        unchanged(setup, "STATE " + call, calls, Due.STATE);
    }

    /** Both IMAGES, ROWS of all LANES, ACTS of all sorts, a FAULT, a TRACE, some tape, and a status(). */
    private static void busy(ThreeRiddles x) {
        Due.read(x, "k256");
        Due.read(x, "k1,9;t31;u0,31;w1;");
        x.image(1);
        Due.read(x, Due.COURT);
        x.asked(0, 3);
        x.image(0);
        for (int row = 0; row < 3; row++) {
            x.row(row, row, 4);
            x.set(row, 1, 2);
            x.set(row, 2, -1);
            x.set(row, 3, row);
        }
        x.row(7, 0, 0);
        x.buy(1, 1);
        x.asked(3, 1);
        x.inTurn(2, 4);
        x.inTurn(0, 2);
        x.ask(4, 1);
        Due.feed(x, "k0,0;t7");
        x.copy(0, 0, 1, 0, 1);
    }

    /** The SUITOR 0 is WED; 1 is to COME, and RIDDLE 5 is left. */
    private static void wedding(ThreeRiddles x) {
        Due.read(x, Due.COURT);
        x.asked(0, 0);
        x.asked(0, 1);
        x.inTurn(2, 2);
        x.asked(3, 3);
        x.asked(0, 4);
        x.row(0, 0, -1);
    }

    private void refusedOfANewObject() {
        edges.of("Terms", "What is refused, or found, changes nothing but status().");
        Consumer<ThreeRiddles> none = x -> { };
        bad(none, "asked", x -> x.asked(0, 0));
        bad(none, "inTurn", x -> x.inTurn(0, 0));
        bad(none, "buy", x -> x.buy(0, 0));
        bad(none, "thing", x -> x.thing(0));
        bad(none, "riddle", x -> x.riddle(0, 0));
        bad(none, "suitor", x -> x.suitor(0, 0));
        bad(none, "says", x -> x.says(0, 0));
        bad(none, "riddleFor", x -> x.riddleFor(0, 1, 0));
        bad(none, "chance", x -> x.chance(0, 0));
        bad(none, "toBuy", x -> x.toBuy(0, 0));
        bad(none, "said", x -> x.said(0, 0, 0, 1, 0));
        bad(none, "kind", x -> x.kind(0));
        bad(none, "as", x -> x.as(0, 0));
        bad(none, "ask", x -> x.ask(0, 0));
        state(none, "undo", ThreeRiddles::undo);
        state(none, "hard", x -> x.hard(1, 0));
        state(none, "beats", ThreeRiddles::beats);
        state(none, "tree", x -> x.tree(0, 0));
        state(none, "image", x -> x.image(0));
        state(none, "restore", x -> x.restore(0));
        unchanged(none, "set", x -> x.set(0, 0, 1), Due.NULL);
        unchanged(none, "row", x -> x.row(0, 0, -1), Due.SIZE);
    }

    private void refusedOfACourt() {
        for (int out : new int[] {MIN, -1, 8, MAX}) {
            bad(EdgeTerms::busy, "row", x -> x.row(out, 0, 1));
            bad(EdgeTerms::busy, "row, lane", x -> x.row(0, out, 1));
            bad(EdgeTerms::busy, "set", x -> x.set(out, 0, 1));
            bad(EdgeTerms::busy, "copy, a", x -> x.copy(out, 0, 0, 0, 1));
            bad(EdgeTerms::busy, "copy, b", x -> x.copy(0, 0, out, 0, 1));
            bad(EdgeTerms::busy, "drop", x -> x.drop(out));
            bad(EdgeTerms::busy, "asked, suitor", x -> x.asked(out, 0));
            bad(EdgeTerms::busy, "asked, riddle", x -> x.asked(1, out));
            bad(EdgeTerms::busy, "inTurn, suitor", x -> x.inTurn(out, 0));
            bad(EdgeTerms::busy, "inTurn, riddle", x -> x.inTurn(1, out));
            bad(EdgeTerms::busy, "buy, suitor", x -> x.buy(out, 0));
            bad(EdgeTerms::busy, "buy, thing", x -> x.buy(1, out));
            bad(EdgeTerms::busy, "thing", x -> x.thing(out));
            bad(EdgeTerms::busy, "riddle", x -> x.riddle(out, 0));
            bad(EdgeTerms::busy, "riddle, what", x -> x.riddle(0, out));
            bad(EdgeTerms::busy, "suitor", x -> x.suitor(out, 0));
            bad(EdgeTerms::busy, "suitor, what", x -> x.suitor(0, out));
            bad(EdgeTerms::busy, "says, suitor", x -> x.says(out, 0));
            bad(EdgeTerms::busy, "says, riddle", x -> x.says(0, out));
            bad(EdgeTerms::busy, "riddleFor, suitor", x -> x.riddleFor(out, 1, 0));
            bad(EdgeTerms::busy, "riddleFor, kind", x -> x.riddleFor(0, out, 0));
            bad(EdgeTerms::busy, "riddleFor, what", x -> x.riddleFor(0, 1, out));
            bad(EdgeTerms::busy, "hard, kind", x -> x.hard(out, 0));
            bad(EdgeTerms::busy, "hard, what", x -> x.hard(1, out));
            bad(EdgeTerms::busy, "chance, suitor", x -> x.chance(out, 0));
            bad(EdgeTerms::busy, "chance, what", x -> x.chance(1, out));
            bad(EdgeTerms::busy, "toBuy, suitor", x -> x.toBuy(out, 0));
            bad(EdgeTerms::busy, "toBuy, what", x -> x.toBuy(0, out));
            bad(EdgeTerms::busy, "tree, what", x -> x.tree(0, out));
            bad(EdgeTerms::busy, "said, suitor", x -> x.said(out, 0, 0, 1, 0));
            bad(EdgeTerms::busy, "said, row", x -> x.said(0, out, 0, 1, 0));
            bad(EdgeTerms::busy, "said, n", x -> x.said(0, 0, 0, out, 0));
            bad(EdgeTerms::busy, "said, what", x -> x.said(0, 0, 0, 1, out));
            bad(EdgeTerms::busy, "image", x -> x.image(out));
            bad(EdgeTerms::busy, "restore", x -> x.restore(out));
            bad(EdgeTerms::busy, "kind", x -> x.kind(out));
            bad(EdgeTerms::busy, "as, riddle", x -> x.as(out, 0));
            bad(EdgeTerms::busy, "as, kind", x -> x.as(0, out));
            bad(EdgeTerms::busy, "ask, riddle", x -> x.ask(out, 0));
            bad(EdgeTerms::busy, "ask, what", x -> x.ask(0, out));
        }
        bad(EdgeTerms::busy, "row of 41", x -> x.row(0, 0, 41));
        bad(EdgeTerms::busy, "feed(-1)", x -> x.feed(-1));
        bad(EdgeTerms::busy, "feed(256)", x -> x.feed(256));
        bad(EdgeTerms::busy, "tree(-1)", x -> x.tree(-1, 0));
        bad(EdgeTerms::busy, "tree(64)", x -> x.tree(64, 0));
        bad(EdgeTerms::busy, "count(-1)", x -> x.count(-1));
        bad(EdgeTerms::busy, "count(10)", x -> x.count(10));
        unchanged(EdgeTerms::busy, "trace(-1)", x -> x.trace(-1), Due.NONE);
        state(EdgeTerms::busy, "asked, used", x -> x.asked(0, 3));
        state(EdgeTerms::busy, "asked, dead", x -> x.asked(3, 0));
        state(EdgeTerms::busy, "asked, free", x -> x.asked(2, 0));
        state(EdgeTerms::busy, "inTurn, used", x -> x.inTurn(1, 3));
        state(EdgeTerms::busy, "inTurn, dead", x -> x.inTurn(3, 0));
        state(EdgeTerms::busy, "inTurn, free", x -> x.inTurn(2, 0));
        state(EdgeTerms::busy, "inTurn, he asked one", x -> x.inTurn(0, 0));
        state(EdgeTerms::busy, "buy, known", x -> x.buy(0, 0));
        state(EdgeTerms::busy, "buy, dead", x -> x.buy(3, 0));
        state(EdgeTerms::busy, "buy, free", x -> x.buy(2, 0));
        state(EdgeTerms::busy, "chance, dead", x -> x.chance(3, 0));
        state(EdgeTerms::busy, "chance, free", x -> x.chance(2, 1));
    }

    private void refusedOfAWedding() {
        state(EdgeTerms::wedding, "asked, another", x -> x.asked(1, 5));
        state(EdgeTerms::wedding, "asked, the wed one", x -> x.asked(0, 5));
        state(EdgeTerms::wedding, "inTurn, another", x -> x.inTurn(1, 5));
        state(EdgeTerms::wedding, "inTurn, the wed one", x -> x.inTurn(0, 5));
        state(EdgeTerms::wedding, "chance of the wed one", x -> x.chance(0, 0));
        state(EdgeTerms::wedding, "restore, none was kept", x -> x.restore(1));
    }

    private void refusedOfAFullTape() {
        Consumer<ThreeRiddles> full = x -> {
            for (int i = 0; i < 120; i++) {
                x.feed('0' + i % 10);
            }
        };
        for (int letter : new int[] {0, 'k', 255}) {
            unchanged(full, "feed(" + letter + ")", x -> x.feed(letter), Due.FULL);
        }
        bad(full, "feed(256)", x -> x.feed(256));
    }

    private void foundOfRows() {
        unchanged(EdgeTerms::busy, "row of -1", x -> x.row(0, 2, -1), Due.SIZE);
        unchanged(EdgeTerms::busy, "row of -1, missing", x -> x.row(5, 2, -1), Due.SIZE);
        unchanged(EdgeTerms::busy, "set, missing", x -> x.set(5, 0, 1), Due.NULL);
        unchanged(EdgeTerms::busy, "set, place -1", x -> x.set(0, -1, 1), Due.PLACE);
        unchanged(EdgeTerms::busy, "set, place 4", x -> x.set(0, 4, 1), Due.PLACE);
        unchanged(EdgeTerms::busy, "set, empty", x -> x.set(7, 0, 1), Due.PLACE);
        unchanged(EdgeTerms::busy, "copy, missing", x -> x.copy(0, 0, 5, 0, 1), Due.NULL);
        unchanged(EdgeTerms::busy, "copy, two lanes", x -> x.copy(0, 1, 2, 0, 1), Due.STORE);
        unchanged(EdgeTerms::busy, "copy, beyond", x -> x.copy(0, 0, 0, 1, 4), Due.PLACE);
        unchanged(EdgeTerms::busy, "copy, beyond b", x -> x.copy(0, 0, 7, 0, 1), Due.PLACE);
        unchanged(EdgeTerms::busy, "drop, missing", x -> x.drop(5), Due.NULL);
        unchanged(EdgeTerms::busy, "said, missing", x -> x.said(0, 5, 0, 1, 0), Due.NULL);
        unchanged(EdgeTerms::busy, "said, place", x -> x.said(0, 0, 3, 2, 0), Due.PLACE);
        unchanged(EdgeTerms::busy, "as", x -> x.as(0, 4), Due.KIND);
        bad(x -> {
            busy(x);
            x.set(0, 0, 6);
            x.set(0, 9, 0);
        }, "said of an item that is no thing", x -> x.said(0, 0, 0, 3, 1));
    }

    private void foretoldChangesNothing() {
        edges.of("Terms 3", "FORETOLD (nothing changes).");
        for (int kind = 1; kind < 6; kind++) {
            int of = kind;
            unchanged(EdgeTerms::busy, "hard " + kind, x -> x.hard(of, 1) > 0 ? 1 : 0, 1);
            unchanged(EdgeTerms::busy, "riddleFor " + kind, x -> x.riddleFor(3, of, 0) >= 0 ? 1 : 0, 1);
        }
        unchanged(EdgeTerms::busy, "chance", x -> x.chance(1, 1), Due.NONE);
        unchanged(EdgeTerms::busy, "toBuy", x -> x.toBuy(3, 1), 7);
        unchanged(EdgeTerms::busy, "beats", ThreeRiddles::beats, 1);
        unchanged(EdgeTerms::busy, "tree", x -> x.tree(63, 0), 4);
        unchanged(x -> {
            busy(x);
            x.as(0, 0);
        }, "said", x -> x.said(0, 0, 1, 2, 0), 1);
    }
}
