/** SAID: its part of the terms, and promise 23. */
final class EdgeSaid {
    private static final int MAX = Integer.MAX_VALUE, MIN = Integer.MIN_VALUE;
    /** THING 0 for three RIDDLES, 1 for one, nothing for two; one SUITOR KNOWS both, one neither. */
    private static final String COURT = "k0,0;t1;t2;p1,0;p1,2;p1,4;p2,0;p4,0;p8,0;w3;w0;";

    private final Edges edges;

    EdgeSaid(Edges edges) {
        this.edges = edges;
    }

    void run() {
        rowTellsWhatWasSaid();
        riddlesAreUnlike();
        byWhatHeKnowsNow();
        riddlesUsedOrNot();
        inEachOfThese();
        saidAnswers();
        numbersAreBad();
        missingIsNull();
        beyondIsPlace();
        itemsAreBad();
    }

    private static ThreeRiddles heard(String court, int lane, int... words) {
        ThreeRiddles x = Due.told(court);
        x.row(0, lane, words.length);
        for (int i = 0; i < words.length; i++) {
            x.set(0, i, words[i]);
        }
        return x;
    }

    private void said(ThreeRiddles x, int suitor, int n, int rows, int riddles) {
        edges.is("rows of " + n + " by " + suitor, x.said(suitor, 0, 0, n, 0), rows);
        edges.is("riddles of " + n + " by " + suitor, x.said(suitor, 0, 0, n, 1), riddles);
    }

    private void rowTellsWhatWasSaid() {
        edges.of("Terms 3", "SAID: a row tells what a SUITOR SAID (THINGS, -1: nothing)");
        for (int lane = 0; lane < 3; lane++) {
            said(heard(COURT, lane, 0), 0, 1, 3, 0);
            said(heard(COURT, lane, 1), 0, 1, 1, 8);
            said(heard(COURT, lane, -1), 0, 1, 2, 0);
            said(heard(COURT, lane, 0), 1, 1, 0, 0);
            said(heard(COURT, lane, -1), 1, 1, 6, 0);
        }
        said(heard(COURT, 0, 255), 0, 1, 2, 0);
        said(heard(COURT, 0, 256), 0, 1, 3, 0);
        said(heard(COURT, 1, 65535), 0, 1, 2, 0);
        said(heard(COURT, 1, 65537), 0, 1, 1, 8);
        said(heard("k0,0;t1;t2;t4;t8;t16;t3;t5;t9;p9,0;p8,0;w128;", 0, 7), 0, 1, 2, 0);
        said(heard("k0,0;w0;", 0, -1), 0, 1, 0, 0);
    }

    private void riddlesAreUnlike() {
        edges.of("Terms 3", "to unlike RIDDLES one behind another");
        ThreeRiddles three = heard(COURT, 0, 0, 0, 0, 0);
        said(three, 0, 1, 3, 0);
        said(three, 0, 2, 6, 0);
        said(three, 0, 3, 6, 7);
        said(three, 0, 4, 0, 0);
        said(heard(COURT, 0, 1, 1), 0, 2, 0, 0);
        said(heard(COURT, 0, 0, 1, 0, 1), 0, 4, 0, 0);
        ThreeRiddles six = heard(COURT, 2, -1, -1, -1, -1, -1, -1);
        int[] rows = {6, 30, 120, 360, 720, 720};
        for (int n = 1; n <= 6; n++) {
            said(six, 1, n, rows[n - 1], n == 6 ? 63 : 0);
        }
        said(heard("k0,0;t1;p1,0;w0;", 0, -1, -1), 0, 2, 0, 0);
    }

    private void byWhatHeKnowsNow() {
        edges.of("Terms 3", ", by what he KNOWS now:");
        ThreeRiddles x = heard(COURT, 0, 1);
        said(x, 1, 1, 0, 0);
        x.buy(1, 1);
        said(x, 1, 1, 1, 8);
        x.undo();
        said(x, 1, 1, 0, 0);
    }

    private void riddlesUsedOrNot() {
        edges.of("Terms 3", "in how many rows of RIDDLES (USED or not) it can have been so;");
        ThreeRiddles x = heard(COURT, 0, 0, 1, -1);
        said(x, 0, 3, 6, 8);
        x.asked(0, 3);
        x.asked(0, 0);
        x.asked(1, 1);
        x.inTurn(0, 4);
        said(x, 0, 3, 6, 8);
        edges.is("dead", x.suitor(1, 1), 1);
        edges.is("also what the dead said", x.said(1, 0, 2, 1, 0), 6);
    }

    private void inEachOfThese() {
        edges.of("Terms 3", "RIDDLES that are in each of these (bits; 0 without any).");
        said(heard(COURT, 0, 0, 0, 0, 1, -1, -1), 0, 6, 12, 63);
        said(heard(COURT, 0, -1, 1, -1, 0), 0, 4, 6, 56);
        said(heard(COURT, 0, 0, 0, -1), 0, 3, 12, 0);
        said(heard(COURT, 0, 1, 1), 0, 2, 0, 0);
        said(heard(COURT, 0, 0, 0, 0, 0), 0, 4, 0, 0);
        said(heard("k0,0;t1;p1,0;w1;", 0, 0), 0, 1, 1, 1);
        said(heard("k0,0;t1;p1,0;w1;", 0, -1), 0, 1, 0, 0);
    }

    private void saidAnswers() {
        edges.of("Promise 23", "SAID, n ITEMS (1 to 6) of a ROW from i on: how many rows (what = 0), RIDDLES (1).");
        ThreeRiddles x = Due.told(COURT);
        x.row(7, 0, 40);
        x.set(7, 39, 1);
        x.set(7, 38, -1);
        edges.is("the last item", x.said(0, 7, 39, 1, 1), 8);
        edges.is("the last two", x.said(0, 7, 38, 2, 0), 2);
        edges.is("the first", x.said(0, 7, 0, 1, 0), 3);
        edges.is("the last six", x.said(0, 7, 34, 6, 0), 0);
        edges.is("the last five", x.said(0, 7, 35, 5, 0), 12);
        edges.is("the last five, riddles", x.said(0, 7, 35, 5, 1), 15);
        edges.is("all of them", heard(COURT, 0, 0, 0, 0, 1, -1, -1).said(0, 0, 0, 6, 0), 12);
    }

    private void numbersAreBad() {
        edges.of("Promise 23", "BAD: SUITOR, ROW, n, what;");
        ThreeRiddles x = heard(COURT, 0, 0, 0, 0, 0, 0, 0, 0, 0);
        for (int out : new int[] {-1, 2, MAX, MIN}) {
            edges.is("suitor " + out, x.said(out, 0, 0, 1, 0), Due.BAD);
            edges.is("what " + out, x.said(0, 0, 0, 1, out), Due.BAD);
            edges.is("suitor " + out + ", ahead of NULL", x.said(out, 1, 0, 1, 0), Due.BAD);
            edges.is("what " + out + ", ahead of PLACE", x.said(0, 0, -1, 1, out), Due.BAD);
        }
        for (int out : new int[] {-1, 8, MAX, MIN}) {
            edges.is("row " + out, x.said(0, out, 0, 1, 0), Due.BAD);
        }
        for (int out : new int[] {-1, 0, 7, MAX, MIN}) {
            edges.is("n " + out, x.said(0, 0, 0, out, 0), Due.BAD);
            edges.is("n " + out + ", ahead of NULL", x.said(0, 1, 0, out, 0), Due.BAD);
            edges.is("n " + out + ", ahead of PLACE", x.said(0, 0, 9, out, 0), Due.BAD);
        }
        edges.is("the last suitor, n 6", x.said(1, 0, 0, 6, 1), 0);
        edges.is("no court", new ThreeRiddles().said(0, 0, 0, 1, 0), Due.BAD);
        edges.is("no suitor", Due.told("k0,0;t1;").said(0, 0, 0, 1, 0), Due.BAD);
    }

    private void missingIsNull() {
        edges.of("Promise 23", "NULL;");
        ThreeRiddles x = heard(COURT, 0, 0);
        for (int row = 1; row < 8; row++) {
            edges.is("row " + row, x.said(0, row, 0, 1, 0), Due.NULL);
        }
        edges.is("ahead of PLACE", x.said(0, 1, -1, 6, 0), Due.NULL);
        x.drop(0);
        edges.is("dropped", x.said(0, 0, 0, 1, 0), Due.NULL);
        edges.is("status", x.status(), 1);
    }

    private void beyondIsPlace() {
        edges.of("Promise 23", "PLACE;");
        ThreeRiddles x = heard(COURT, 0, 0, 0, 0, 0, 0, 0, 0);
        edges.is("to the end", x.said(0, 0, 1, 6, 0), 0);
        edges.is("beyond the end", x.said(0, 0, 2, 6, 0), Due.PLACE);
        edges.is("the last one", x.said(0, 0, 6, 1, 0), 3);
        for (int i : new int[] {-1, 7, MAX, MAX - 5, MIN}) {
            edges.is("place " + i, x.said(0, 0, i, 1, 0), Due.PLACE);
            edges.is("place " + i + ", six", x.said(0, 0, i, 6, 0), Due.PLACE);
        }
        edges.is("status", x.status(), 2);
        x.row(1, 0, 0);
        edges.is("of an empty row", x.said(0, 1, 0, 1, 0), Due.PLACE);
        x.set(0, 6, 9);
        edges.is("ahead of an item", x.said(0, 0, 6, 2, 0), Due.PLACE);
    }

    private void itemsAreBad() {
        edges.of("Promise 23", "then BAD: an ITEM that is none of the THINGS, nor -1.");
        for (int lane = 0; lane < 3; lane++) {
            ThreeRiddles x = heard(COURT, lane, 0, 1, -1, 2, -2, 127, -128);
            edges.is("the last thing", x.said(0, 0, 1, 1, 0), 1);
            edges.is("beyond it", x.said(0, 0, 3, 1, 0), Due.BAD);
            edges.is("nothing", x.said(0, 0, 2, 1, 0), 2);
            edges.is("below it", x.said(0, 0, 4, 1, 0), Due.BAD);
            edges.is("far beyond", x.said(0, 0, 5, 1, 0), Due.BAD);
            edges.is("far below", x.said(0, 0, 6, 1, 0), Due.BAD);
            edges.is("behind good ones", x.said(0, 0, 0, 4, 0), Due.BAD);
            edges.is("behind good ones, riddles", x.said(0, 0, 0, 4, 1), Due.BAD);
            edges.is("ahead of it", x.said(0, 0, 0, 3, 0), 6);
            edges.is("first of several", x.said(0, 0, 3, 4, 0), Due.BAD);
        }
        ThreeRiddles far = heard(COURT, 2, MAX, MIN);
        edges.is("max", far.said(0, 0, 0, 1, 0), Due.BAD);
        edges.is("min", far.said(0, 0, 1, 1, 0), Due.BAD);
        // A word that nobody can have SAID ends no search for an ITEM that is no THING.
        edges.is("behind what cannot be", heard(COURT, 0, 1, 1, 2).said(0, 0, 0, 3, 0), Due.BAD);
        edges.is("0, without things", heard("k0,0;p0,0;w0;", 0, 0).said(0, 0, 0, 1, 0), Due.BAD);
        edges.is("nothing, without things", heard("k0,0;p0,0;w0;", 0, -1).said(0, 0, 0, 1, 0), 1);
    }
}
