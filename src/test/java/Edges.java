/**
 * Tests by the document's own words: each says which words it is of, and what it compares is told
 * with these. At the end there may be no words that no test is of.
 */
final class Edges {
    /** THING 0 .. 4 with TRAIT 0 .. 4, RIDDLE 0 .. 4 for these, RIDDLE 5 for nothing; the SUITOR KNOWS all. */
    static final String ITEMS = "k0,0;t1;t2;t4;t8;t16;p1,0;p2,0;p4,0;p8,0;p16,0;p3,0;w31;";

    private final Due due = new Due();
    private final Document document = new Document();
    private String now = "";

    /** What is compared from here on is of these words, which must stand in that part of the document. */
    void of(String part, String words) {
        now = part + ", \"" + words + "\": ";
        is("words of the document", document.marks(part, words) ? 1 : 0, 1);
    }

    void is(String call, int got, int want) {
        due.is(now + call, got, want);
    }

    /** An ITEM from -1 to 4, seen by what can have been SAID in the court ITEMS, which must be told. */
    void item(ThreeRiddles x, int row, int i, int want) {
        is("item " + i + " of row " + row, x.said(0, row, i, 1, 1), want < 0 ? 32 : 1 << want);
    }

    void items(ThreeRiddles x, int row, int... want) {
        for (int i = 0; i < want.length; i++) {
            item(x, row, i, want[i]);
        }
    }

    void faulty(ThreeRiddles x, String text, int place, int number) {
        is("court() of " + text, Due.read(x, text), Due.FAULT - place);
        is("fault() of " + text, x.fault(), number);
    }

    void end() {
        now = "";
        for (String rest : document.untested()) {
            is("no test is of what stands between the bars, " + rest, 1, 0);
        }
        is("parts of the document", document.parts(), 5 + 31);
        due.end();
    }
}
