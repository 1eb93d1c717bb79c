/** Promises 26 to 30: KINDS, ASKS and THE TRACE. */
public final class AskedTest {
    private static final Due due = new Due();

    public static void main(String[] args) {
        kindsAreTold();
        riddlesAreTakenAs();
        sizesAreAsked();
        marksAreAsked();
        theTraceIsKept();
        askIsRefused();
        countsAreTold();
        due.end();
    }

    private static void kindsAreTold() {
        ThreeRiddles x = Due.told(Due.COURT);
        int[] kinds = {1, 2, 3, 4, 5, 1};
        for (int riddle = 0; riddle < kinds.length; riddle++) {
            due.is("kind(" + riddle + ")", x.kind(riddle), kinds[riddle]);
        }
        due.is("riddle -1", x.kind(-1), Due.BAD);
        due.is("riddle 6", x.kind(6), Due.BAD);
    }

    private static void riddlesAreTakenAs() {
        ThreeRiddles x = Due.told(Due.COURT);
        // By RIDDLE, a bit for each KIND that it is.
        int[] is = {0b000011, 0b000111, 0b001011, 0b010001, 0b110001, 0b000011};
        for (int riddle = 0; riddle < is.length; riddle++) {
            for (int kind = 0; kind < 6; kind++) {
                boolean so = (is[riddle] >> kind & 1) != 0;
                due.is("as(" + riddle + ", " + kind + ")", x.as(riddle, kind), so ? riddle : Due.KIND);
                due.is("its status", x.status(), so ? 0 : 3);
            }
        }
        due.is("riddle -1", x.as(-1, 0), Due.BAD);
        due.is("riddle 6", x.as(6, 0), Due.BAD);
        due.is("kind -1", x.as(0, -1), Due.BAD);
        due.is("kind 6", x.as(0, 6), Due.BAD);
    }

    private static void sizesAreAsked() {
        ThreeRiddles x = Due.told(Due.COURT);
        asked(x, 0, 0, 3 + 1, 11, 10, 21, 20);
        asked(x, 1, 0, -(1 + 8), 12, 11, 10, 24, 21, 20);
        asked(x, 2, 0, 1 - 992, 11, 10, 22, 21, 20);
        asked(x, 3, 0, 4 - 100, 13, 10);
        asked(x, 4, 0, 2 * (1 - 100), 14, 13, 10);
        asked(x, 5, 0, 36, 11, 10, 21, 20);
    }

    private static void marksAreAsked() {
        ThreeRiddles x = Due.told(Due.COURT);
        asked(x, 0, 1, 1, 21, 20);
        asked(x, 1, 1, 2 * (1 + 3), 24, 21, 20);
        asked(x, 2, 1, 2 + 6 - 1000, 22, 21, 20);
        asked(x, 3, 1, 3 + 96, 23, 20, 13, 10);
        asked(x, 4, 1, 4 + 198, 23, 20, 14, 13, 10);
        asked(x, 5, 1, 36, 21, 20);
    }

    private static void asked(ThreeRiddles x, int riddle, int what, int answer, int... trace) {
        String call = "ask(" + riddle + ", " + what + ")";
        due.is(call, x.ask(riddle, what), answer);
        for (int i = 0; i < trace.length; i++) {
            due.is(call + ", trace(" + i + ")", x.trace(i), trace[i]);
        }
        due.is(call + ", trace behind it", x.trace(trace.length), Due.NONE);
    }

    private static void theTraceIsKept() {
        ThreeRiddles x = Due.told(Due.COURT);
        x.ask(3, 0);
        due.is("trace(-1)", x.trace(-1), Due.NONE);
        due.is("trace(16)", x.trace(16), Due.NONE);
        due.is("trace(max)", x.trace(Integer.MAX_VALUE), Due.NONE);
        due.is("trace(min)", x.trace(Integer.MIN_VALUE), Due.NONE);
        x.asked(0, 0);
        x.undo();
        Due.read(x, "k0,0;");
        due.is("other calls leave it", x.trace(0), 13);
    }

    private static void askIsRefused() {
        ThreeRiddles x = Due.told(Due.COURT);
        x.ask(4, 0);
        due.is("riddle -1", x.ask(-1, 0), Due.BAD);
        due.is("riddle 6", x.ask(6, 0), Due.BAD);
        due.is("what -1", x.ask(0, -1), Due.BAD);
        due.is("what 2", x.ask(0, 2), Due.BAD);
        due.is("the trace stays", x.trace(0), 14);
        due.is("all of it", x.trace(2), 10);
    }

    private static void countsAreTold() {
        ThreeRiddles x = Due.told(Due.COURT);
        x.row(3, 1, 1);
        x.feed('k');
        x.feed('k');
        x.buy(3, 2);
        x.asked(3, 2);
        x.asked(3, 0);
        x.asked(1, 4);
        int[] due10 = {1, 6, 6, 4, 21, 2, 7, 21, 4, 2};
        for (int what = 0; what < 10; what++) {
            due.is("count(" + what + ")", x.count(what), due10[what]);
        }
        due.is("count(-1)", x.count(-1), Due.BAD);
        due.is("count(10)", x.count(10), Due.BAD);
    }
}
