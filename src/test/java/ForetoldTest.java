/** Promises 17 to 25: what is FORETOLD, and IMAGES. */
public final class ForetoldTest {
    private static final Due due = new Due();

    public static void main(String[] args) {
        riddlesForSuitors();
        hardOnes();
        hardWithoutAnyWhoComes();
        chances();
        whatToBuy();
        whatBeatsHer();
        trees();
        treesOfOtherTraits();
        whatWasSaid();
        saidIsRefused();
        imagesAreKept();
        due.end();
    }

    private static void riddlesForSuitors() {
        ThreeRiddles x = Due.told("k0,0;t1;t2;w1;w2;w3;w0;");
        due.is("plain, who knows 0", x.riddleFor(0, 1, 0), 1);
        due.is("plain, who knows 1", x.riddleFor(1, 1, 0), 2);
        due.is("who knows both", x.riddleFor(2, 1, 0), Due.NONE);
        due.is("how many", x.riddleFor(2, 1, 1), 0);
        // To the second THING alone lead YES {1} with any NO but 1, and YES {} with 0 in NO but not 1.
        due.is("how many, who knows 0", x.riddleFor(0, 1, 1), 16 + 8);
        due.is("how many, who knows nothing", x.riddleFor(3, 1, 1), 48);
        due.is("lying", x.riddleFor(0, 4, 0), 2);
        due.is("suitor -1", x.riddleFor(-1, 1, 0), Due.BAD);
        due.is("suitor 4", x.riddleFor(4, 1, 0), Due.BAD);
        due.is("kind 0", x.riddleFor(0, 0, 0), Due.BAD);
        due.is("kind 6", x.riddleFor(0, 6, 0), Due.BAD);
        due.is("what -1", x.riddleFor(0, 1, -1), Due.BAD);
        due.is("what 2", x.riddleFor(0, 1, 2), Due.BAD);
        ThreeRiddles y = Due.told(Due.COURT);
        y.asked(3, 0);
        due.is("also for the dead", y.riddleFor(3, 5, 1), 65);
    }

    private static void hardOnes() {
        ThreeRiddles x = Due.told(Due.COURT);
        int[] which = {3, 7, 3, 8, 34};
        int[] many = {3, 3, 3, 2, 3};
        for (int kind = 1; kind <= 5; kind++) {
            due.is("hard(" + kind + ", 0)", x.hard(kind, 0), which[kind - 1]);
            due.is("hard(" + kind + ", 1)", x.hard(kind, 1), many[kind - 1]);
        }
        due.is("kind 0", x.hard(0, 0), Due.BAD);
        due.is("kind 6", x.hard(6, 0), Due.BAD);
        due.is("what -1", x.hard(1, -1), Due.BAD);
        due.is("what 2", x.hard(1, 2), Due.BAD);
        x.asked(3, 0);
        due.is("the dead do not count", x.hard(5, 1), 2);
        ThreeRiddles none = Due.told("k0,0;t1;t1;w0;");
        due.is("no fair one, which", none.hard(1, 0), Due.NONE);
        due.is("no fair one, how many", none.hard(1, 1), Due.NONE);
    }

    private static void hardWithoutAnyWhoComes() {
        ThreeRiddles x = Due.told("k0,0;t1;t2;");
        due.is("the first fair one", x.hard(1, 0), 1);
        due.is("for nobody", x.hard(1, 1), 0);
        ThreeRiddles known = Due.told("k0,0;t1;t2;w3;");
        due.is("the first fair one", known.hard(1, 0), 1);
        due.is("all know", known.hard(1, 1), 0);
        ThreeRiddles one = Due.told("k0,0;t0;w0;");
        due.is("the first of all, for one", one.riddleFor(0, 1, 0), 0);
        due.is("all but those that want a trait", one.riddleFor(0, 1, 1), 32);
        due.is("lying, all that want a trait", one.riddleFor(0, 4, 1), 243 - 32);
        due.is("the first of all, hard", one.hard(1, 0), 0);
        due.is("for the first one", one.hard(1, 1), 1);
        ThreeRiddles last = Due.told("k0,0;t31;t30;w2;w2;w1;");
        due.is("hard for two", last.hard(1, 0), 32);
        due.is("two", last.hard(1, 1), 2);
    }

    private static void chances() {
        ThreeRiddles x = Due.told(Due.COURT);
        fraction(x, 0, 1, 1);
        fraction(x, 1, 1, 20);
        fraction(x, 3, 0, 1);
        x.buy(1, 2);
        fraction(x, 1, 1, 5);
        x.asked(1, 1);
        // He needs two yet, and SAYS ANSWER to three of the five that were not USED.
        fraction(x, 1, 3, 10);
        x.asked(1, 3);
        fraction(x, 1, 1, 2);
        due.is("suitor -1", x.chance(-1, 0), Due.BAD);
        due.is("suitor 4", x.chance(4, 0), Due.BAD);
        due.is("what -1", x.chance(0, -1), Due.BAD);
        due.is("what 2", x.chance(0, 2), Due.BAD);
        x.inTurn(3, 4);
        due.is("free", x.chance(3, 0), Due.STATE);
        due.is("BAD ahead of STATE", x.chance(3, 2), Due.BAD);
        fraction(x, 0, 1, 1);
        x.asked(2, 5);
        due.is("two left, three are needed", x.chance(0, 0), Due.NONE);
        due.is("told below as well", x.chance(0, 1), Due.NONE);
        due.is("two left, two are needed", x.chance(2, 0), 1);
        fraction(x, 1, 1, 2);
        x.asked(1, 2);
        due.is("wed", x.chance(1, 0), Due.STATE);
        due.is("one left, two are needed", x.chance(2, 0), Due.NONE);
    }

    private static void fraction(ThreeRiddles x, int suitor, int above, int below) {
        due.is("chance(" + suitor + ", 0)", x.chance(suitor, 0), above);
        due.is("chance(" + suitor + ", 1)", x.chance(suitor, 1), below);
    }

    private static void whatToBuy() {
        ThreeRiddles x = Due.told(Due.COURT);
        due.is("who knows all", x.toBuy(0, 0), 0);
        due.is("for nothing", x.toBuy(0, 1), 0);
        due.is("who knows nothing", x.toBuy(3, 0), 39);
        due.is("for", x.toBuy(3, 1), 35);
        x.asked(0, 3);
        due.is("still an answer", x.toBuy(3, 0), 39);
        due.is("for less", x.toBuy(3, 1), 28);
        x.asked(0, 1);
        due.is("no answer any more", x.toBuy(3, 0), 38);
        x.asked(3, 5);
        x.asked(3, 0);
        due.is("also the dead", x.toBuy(3, 0), 36);
        due.is("suitor -1", x.toBuy(-1, 0), Due.BAD);
        due.is("suitor 4", x.toBuy(4, 0), Due.BAD);
        due.is("what -1", x.toBuy(0, -1), Due.BAD);
        due.is("what 2", x.toBuy(0, 2), Due.BAD);
    }

    private static void whatBeatsHer() {
        ThreeRiddles x = Due.told(Due.COURT);
        due.is("beats", x.beats(), 17);
        x.asked(0, 0);
        due.is("not those that were used", x.beats(), 16);
        x.inTurn(0, 4);
        due.is("none", x.beats(), 0);
    }

    private static void trees() {
        ThreeRiddles x = Due.told(Due.COURT);
        tree(x, 0, 0, Due.NONE);
        tree(x, 32, 0, Due.NONE);
        tree(x, 3, 1, 1);
        tree(x, 7, 2, 0);
        tree(x, 31, 3, 1);
        tree(x, 63, 4, 0);
        tree(x, 64, Due.BAD, Due.BAD);
        tree(x, -1, Due.BAD, Due.BAD);
        tree(x, 65, Due.BAD, Due.BAD);
        due.is("what -1", x.tree(3, -1), Due.BAD);
        due.is("what 2", x.tree(3, 2), Due.BAD);
    }

    private static void treesOfOtherTraits() {
        ThreeRiddles cube = Due.told("k0,0;t0;t4;t8;t12;t16;t20;t24;t28;");
        tree(cube, 255, 3, 2);
        tree(cube, 1 | 1 << 7, 1, 2);
        tree(cube, 1 | 1 << 1 | 1 << 4 | 1 << 5, 2, 2);
        ThreeRiddles alike = Due.told("k0,0;t1;t2;t1;");
        tree(alike, 7, Due.NONE, Due.NONE);
        tree(alike, 5, Due.NONE, Due.NONE);
        tree(alike, 6, 1, 0);
        tree(alike, 4, 0, Due.NONE);
        tree(Due.told("k0,0;t31;t31;t0;"), 7, Due.NONE, Due.NONE);
        tree(Due.told("k0,0;t0;t1;"), 3, 1, 0);
        tree(Due.told("k0,0;t0;t16;"), 3, 1, 4);
        ThreeRiddles two = Due.told("k0,0;t3;t7;t3;");
        tree(two, 3, 1, 2);
        Due.read(two, "k0,0;t16;t8;t24;");
        tree(two, 3, 1, 3);
        tree(two, 7, 2, 3);
        ThreeRiddles lonely = Due.told("k0,0;t1;t2;t4;t8;t16;t0;");
        tree(lonely, 63, 5, 0);
        tree(lonely, 62, 4, 1);
        // The one question that comes first matters: TRAIT 0 leaves three of four together.
        ThreeRiddles first = Due.told("k0,0;t1;t2;t4;t6;");
        tree(first, 15, 2, 1);
    }

    private static void tree(ThreeRiddles x, int set, int times, int trait) {
        due.is("tree(" + set + ", 0)", x.tree(set, 0), times);
        due.is("tree(" + set + ", 1)", x.tree(set, 1), trait);
    }

    private static void whatWasSaid() {
        ThreeRiddles x = Due.told("k0,0;t1;t2;p1,0;p1,2;p1,4;p2,0;p4,0;p8,0;w3;w0;");
        said(x, 0, new int[] {0}, 3, 0);
        said(x, 0, new int[] {0, 0}, 6, 0);
        said(x, 0, new int[] {0, 0, 0}, 6, 7);
        said(x, 0, new int[] {0, 0, 0, 0}, 0, 0);
        said(x, 0, new int[] {1, 0, -1}, 6, 8);
        said(x, 0, new int[] {-1, 1, -1, 0, 0, 0}, 12, 63);
        said(x, 0, new int[] {1, 1}, 0, 0);
        said(x, 1, new int[] {-1}, 6, 0);
        said(x, 1, new int[] {-1, -1, -1, -1, -1, -1}, 720, 63);
        said(x, 1, new int[] {0}, 0, 0);
        x.asked(0, 3);
        said(x, 0, new int[] {1}, 1, 8);
        x.buy(1, 1);
        said(x, 1, new int[] {1}, 1, 8);
    }

    private static void said(ThreeRiddles x, int suitor, int[] words, int ways, int each) {
        for (int lane = 0; lane < 3; lane++) {
            x.row(4, lane, words.length + 3);
            for (int i = 0; i < words.length; i++) {
                x.set(4, i + 2, words[i]);
            }
            String call = "said of " + java.util.Arrays.toString(words) + " by " + suitor;
            due.is(call, x.said(suitor, 4, 2, words.length, 0), ways);
            due.is(call + ", in each", x.said(suitor, 4, 2, words.length, 1), each);
        }
    }

    private static void saidIsRefused() {
        ThreeRiddles x = Due.told(Due.COURT);
        x.row(0, 0, 8);
        due.is("suitor -1", x.said(-1, 0, 0, 1, 0), Due.BAD);
        due.is("suitor 4", x.said(4, 0, 0, 1, 0), Due.BAD);
        due.is("row -1", x.said(0, -1, 0, 1, 0), Due.BAD);
        due.is("row 8", x.said(0, 8, 0, 1, 0), Due.BAD);
        due.is("n 0", x.said(0, 0, 0, 0, 0), Due.BAD);
        due.is("n 7", x.said(0, 0, 0, 7, 0), Due.BAD);
        due.is("what -1", x.said(0, 0, 0, 1, -1), Due.BAD);
        due.is("what 2", x.said(0, 0, 0, 1, 2), Due.BAD);
        due.is("BAD ahead of NULL", x.said(0, 1, 0, 0, 0), Due.BAD);
        due.is("missing", x.said(0, 1, 0, 1, 0), Due.NULL);
        due.is("NULL ahead of PLACE", x.said(0, 1, -1, 1, 0), Due.NULL);
        due.is("place -1", x.said(0, 0, -1, 1, 0), Due.PLACE);
        due.is("place 8", x.said(0, 0, 8, 1, 0), Due.PLACE);
        due.is("beyond the end", x.said(0, 0, 3, 6, 0), Due.PLACE);
        due.is("place max", x.said(0, 0, Integer.MAX_VALUE, 6, 0), Due.PLACE);
        x.set(0, 7, 6);
        due.is("PLACE ahead of an item", x.said(0, 0, 7, 2, 0), Due.PLACE);
        due.is("no such thing", x.said(0, 0, 7, 1, 0), Due.BAD);
        due.is("behind others", x.said(0, 0, 2, 6, 0), Due.BAD);
        due.is("not looked at", x.said(0, 0, 1, 1, 0), 2);
        x.set(0, 7, -2);
        due.is("below nothing", x.said(0, 0, 7, 1, 0), Due.BAD);
        x.set(0, 7, -1);
        due.is("nothing", x.said(0, 0, 7, 1, 0), 1);
    }

    private static void imagesAreKept() {
        ThreeRiddles x = Due.told(Due.COURT);
        due.is("image -1", x.image(-1), Due.BAD);
        due.is("image 2", x.image(2), Due.BAD);
        due.is("restore -1", x.restore(-1), Due.BAD);
        due.is("restore 2", x.restore(2), Due.BAD);
        due.is("none was kept", x.restore(0), Due.STATE);
        x.buy(3, 0);
        x.asked(3, 1);
        x.inTurn(3, 2);
        x.asked(2, 3);
        due.is("image", x.image(0), 1);
        due.is("acts stay", x.count(8), 4);
        due.is("the other was not kept", x.restore(1), Due.STATE);
        due.is("acts stay", x.count(8), 4);
        due.is("another court", Due.read(x, "k1,9;t31;u0,31;w1;"), 1);
        due.is("image", x.image(1), 1);
        x.asked(0, 0);
        due.is("restore", x.restore(0), 1);
        due.is("no act", x.count(8), 0);
        due.is("undo", x.undo(), Due.STATE);
        due.is("things", x.count(1), 6);
        due.is("used", x.count(4), 14);
        due.is("dead", x.count(5), 1);
        due.is("paid", x.count(6), 14);
        due.is("SHE", x.count(7), 21);
        due.is("kind", x.kind(4), 5);
        due.is("traits", x.thing(4), 17);
        due.is("knows", x.suitor(3, 0), 1);
        due.is("right", x.suitor(3, 2), 1);
        due.is("in turn", x.suitor(3, 3), 1);
        due.is("its price", x.buy(3, 1), 7);
        due.is("restore again", x.restore(0), 1);
        due.is("the image stayed", x.suitor(3, 0), 1);
        due.is("restore the other", x.restore(1), 1);
        due.is("its suitors", x.count(3), 1);
        due.is("its riddle", x.riddle(0, 1), 31);
        due.is("it was not used", x.count(4), 0);
    }
}
