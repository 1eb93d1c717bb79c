/** FORETOLD but SAID, and IMAGES: their part of the terms, and promises 17 to 22, 24 and 25. */
final class EdgeForetold {
    private static final int MAX = Integer.MAX_VALUE, MIN = Integer.MIN_VALUE;

    private final Edges edges;

    EdgeForetold(Edges edges) {
        this.edges = edges;
    }

    void run() {
        riddleForIsTheFirstOfAll();
        riddleForIsFairAndNotSaid();
        riddleForAnswers();
        riddleForIsRefused();
        hardIsForAsManyAsCanBe();
        hardCountsThoseWhoCome();
        hardIsNone();
        hardAnswers();
        everyChance();
        chanceWhenAnotherIsWed();
        chanceAnswers();
        whatToBuy();
        toBuyAnswers();
        whatBeatsHer();
        treesOfFewThings();
        treesOfAllThings();
        treesOfThingsAlike();
        treeAnswers();
        imageIsKept();
        restoreBringsBack();
    }

    private void riddleFor(String text, int suitor, int kind, int first, int many) {
        ThreeRiddles x = Due.told(text);
        edges.is("the first of kind " + kind + " in " + text, x.riddleFor(suitor, kind, 0), first);
        edges.is("how many of kind " + kind + " in " + text, x.riddleFor(suitor, kind, 1), many);
    }

    /** There are 243 RIDDLES of a KIND: each TRAIT is in YES, in NO, or in none of them. */
    private void riddleForIsTheFirstOfAll() {
        edges.of("Terms 3", "RIDDLE for a SUITOR, of a KIND (1 to 5): the first of all (by YES, then NO; none in both)");
        int[] firstOfNone = {0, 0, 0, 32, 32}, manyOfNone = {32, 63, 32 + 80, 243 - 32, 243 - 32};
        int[] firstOfAll = {0, 0, 0, 1, Due.NONE}, manyOfAll = {32, 63, 32, 243 - 32, 0};
        for (int kind = 1; kind <= 5; kind++) {
            riddleFor("k0,0;t0;w0;", 0, kind, firstOfNone[kind - 1], manyOfNone[kind - 1]);
            riddleFor("k0,0;t31;w0;", 0, kind, firstOfAll[kind - 1], manyOfAll[kind - 1]);
        }
        riddleFor("k0,0;t0;t1;w2;", 0, 1, 1, 16);
        riddleFor("k0,0;t0;t1;w1;", 0, 1, 32, 16);
        riddleFor("k0,0;t0;t1;w0;", 0, 1, 1, 32);
        riddleFor("k0,0;t0;t16;w2;", 0, 1, 16, 16);
        riddleFor("k0,0;t31;t30;t29;t27;t23;t15;w62;", 0, 1, 992, 1);
        riddleFor("k0,0;t0;t1;t2;t4;t8;t16;w62;", 0, 1, 31, 1);
    }

    private void riddleForIsFairAndNotSaid() {
        edges.of("Terms 3", "that is FAIR, and to which he does not SAY ANSWER: 32 times YES, and NO; "
                + "how many such ones there are; NONE.");
        riddleFor("k0,0;t1;t1;w0;", 0, 1, Due.NONE, 0);
        riddleFor("k0,0;t1;w1;", 0, 1, Due.NONE, 0);
        riddleFor("k0,0;t1;t2;w3;", 0, 1, Due.NONE, 0);
        for (int kind = 1; kind <= 5; kind++) {
            riddleFor("k0,0;w0;", 0, kind, Due.NONE, 0);
        }
        // YES {1}, NO {0}: 32 times 2, and 1; YES {} and NO {0} is ahead of it, but FITS two.
        riddleFor("k0,0;t1;t2;t4;w5;", 0, 1, 5, 4 + 16);
    }

    private void riddleForAnswers() {
        edges.of("Promise 17", "RIDDLE for a SUITOR: the first (what = 0), how many (1); NONE.");
        ThreeRiddles x = Due.told("k0,0;t0;t1;p1,0;w0;w3;w2;w1;");
        edges.is("the first", x.riddleFor(0, 1, 0), 1);
        edges.is("how many", x.riddleFor(0, 1, 1), 32);
        edges.is("none", x.riddleFor(1, 1, 0), Due.NONE);
        edges.is("none, how many", x.riddleFor(1, 1, 1), 0);
        edges.is("the last suitor", x.riddleFor(3, 1, 0), 32);
        x.asked(0, 0);
        edges.is("also the dead", x.riddleFor(0, 1, 1), 32);
        x.buy(3, 1);
        edges.is("by what he knows now", x.riddleFor(3, 1, 0), Due.NONE);
    }

    private void riddleForIsRefused() {
        edges.of("Promise 17", "BAD.");
        ThreeRiddles x = Due.told("k0,0;t0;t1;p1,0;w0;w3;");
        for (int out : new int[] {-1, 2, MAX, MIN}) {
            edges.is("suitor " + out, x.riddleFor(out, 1, 0), Due.BAD);
            edges.is("what " + out, x.riddleFor(0, 1, out), Due.BAD);
        }
        for (int out : new int[] {-1, 0, 6, MAX, MIN}) {
            edges.is("kind " + out, x.riddleFor(0, out, 0), Due.BAD);
        }
        edges.is("no suitor", Due.told("k0,0;t0;").riddleFor(0, 1, 0), Due.BAD);
        edges.is("no court", new ThreeRiddles().riddleFor(0, 1, 0), Due.BAD);
    }

    private void hard(String text, int kind, int which, int many) {
        ThreeRiddles x = Due.told(text);
        edges.is("which of kind " + kind + " in " + text, x.hard(kind, 0), which);
        edges.is("for how many of kind " + kind + " in " + text, x.hard(kind, 1), many);
    }

    private void hardIsForAsManyAsCanBe() {
        edges.of("Terms 3", "HARD: that to which as many SUITORS who COME as can be do not SAY ANSWER, FAIR, "
                + "of several the first; how many;");
        hard("k0,0;t0;w0;w0;w0;w0;", 1, 0, 4);
        hard("k0,0;t0;w1;w1;w1;w1;", 1, 0, 0);
        hard("k0,0;t0;", 1, 0, 0);
        hard("k0,0;t0;t1;w1;w2;", 1, 1, 1);
        hard("k0,0;t0;t1;w1;w1;w2;", 1, 32, 2);
        hard("k0,0;t0;t1;w1;w2;w2;", 1, 1, 2);
        hard("k0,0;t0;t1;w3;w3;", 1, 1, 0);
        hard("k0,0;t31;t30;t29;t27;t23;t15;w62;", 1, 992, 1);
        int[] firsts = {0, 0, 0, 32, 32};
        for (int kind = 1; kind <= 5; kind++) {
            hard("k0,0;t0;w1;w0;", kind, firsts[kind - 1], 1);
        }
    }

    private void hardCountsThoseWhoCome() {
        edges.of("Terms 3", "SUITORS who COME");
        ThreeRiddles x = Due.told("k0,0;t1;p1,0;p1,0;p2,0;p2,0;p2,0;w0;w0;w1;w0;");
        edges.is("three", x.hard(1, 1), 3);
        x.asked(0, 0);
        edges.is("one is dead", x.hard(1, 1), 2);
        x.inTurn(1, 1);
        edges.is("one is free", x.hard(1, 1), 1);
        x.asked(3, 2);
        x.asked(3, 3);
        edges.is("one was right twice", x.hard(1, 1), 1);
        x.asked(3, 4);
        edges.is("one is wed", x.hard(1, 1), 0);
        edges.is("the first fair one still", x.hard(1, 0), 0);
    }

    private void hardIsNone() {
        edges.of("Terms 3", "NONE: there is no FAIR one of that KIND.");
        for (int kind = 1; kind <= 5; kind++) {
            hard("k0,0;", kind, Due.NONE, Due.NONE);
            hard("k0,0;w0;", kind, Due.NONE, Due.NONE);
            hard("k0,0;t5;t5;w0;", kind, Due.NONE, Due.NONE);
        }
        hard("k0,0;t31;w0;", 5, Due.NONE, Due.NONE);
        hard("k0,0;t31;w0;", 4, 1, 1);
    }

    private void hardAnswers() {
        edges.of("Promise 18", "HARD: which (what = 0), how many SUITORS (1); NONE.");
        hard("k0,0;t0;t1;w1;w1;w2;", 1, 32, 2);
        hard("k0,0;t1;t1;w1;", 1, Due.NONE, Due.NONE);
        edges.of("Promise 18", "BAD;");
        ThreeRiddles x = Due.told("k0,0;t0;w0;");
        for (int out : new int[] {-1, 0, 6, MAX, MIN}) {
            edges.is("kind " + out, x.hard(out, 0), Due.BAD);
        }
        for (int out : new int[] {-1, 2, MAX, MIN}) {
            edges.is("what " + out, x.hard(1, out), Due.BAD);
        }
        edges.of("Promise 18", "STATE: no COURT (ahead of BAD).");
        ThreeRiddles none = new ThreeRiddles();
        edges.is("hard(1, 0)", none.hard(1, 0), Due.STATE);
        edges.is("hard(0, 0)", none.hard(0, 0), Due.STATE);
        edges.is("hard(6, 2)", none.hard(6, 2), Due.STATE);
        Due.read(none, "k");
        edges.is("behind a fault", none.hard(0, 2), Due.STATE);
    }

    /** He was RIGHT already; of those not USED he SAYS ANSWER to good ones. */
    private void everyChance() {
        edges.of("Terms 3", "RIDDLES not USED are ASKED, all rows of unlike ones alike likely: "
                + "that one who COMES is WED by them: a fraction;");
        for (int right = 0; right < 3; right++) {
            for (int unused = 3 - right; unused + right <= 6; unused++) {
                for (int good = 0; good <= unused; good++) {
                    int above = 1, below = 1;
                    for (int k = 0; k < 3 - right; k++) {
                        above *= Math.max(0, good - k);
                        below *= unused - k;
                    }
                    int by = common(above, below);
                    ThreeRiddles x = chances(right, unused, good);
                    edges.is("above", x.chance(0, 0), above / by);
                    edges.is("below", x.chance(0, 1), below / by);
                }
            }
        }
        edges.of("Terms 3", "NONE: there are not so many as he needs.");
        for (int right = 0; right < 3; right++) {
            for (int unused = 0; unused < 3 - right; unused++) {
                ThreeRiddles x = chances(right, unused, unused);
                edges.is("above", x.chance(0, 0), Due.NONE);
                edges.is("below", x.chance(0, 1), Due.NONE);
            }
        }
    }

    private static ThreeRiddles chances(int right, int unused, int good) {
        ThreeRiddles x = Due.told("k0,0;t1;t2;" + "p1,0;".repeat(right + good) + "p2,0;".repeat(unused - good) + "w1;");
        for (int riddle = 0; riddle < right; riddle++) {
            x.asked(0, riddle);
        }
        return x;
    }

    private static int common(int a, int b) {
        return b == 0 ? a : common(b, a % b);
    }

    private void chanceWhenAnotherIsWed() {
        edges.of("Terms 3", "CHANCE (also if another one is WED):");
        ThreeRiddles x = Due.told("k0,0;t1;p2,0;p2,0;p2,0;p2,0;p2,0;p1,0;w0;w0;w0;");
        x.asked(1, 0);
        x.asked(0, 1);
        x.asked(0, 2);
        x.asked(0, 3);
        edges.is("wed", x.suitor(0, 1), 2);
        edges.is("two needed, one is good, above", x.chance(1, 0), 0);
        edges.is("two needed, one is good, below", x.chance(1, 1), 1);
        edges.is("three needed", x.chance(2, 0), Due.NONE);
        x.buy(1, 0);
        edges.is("two needed, both good, above", x.chance(1, 0), 1);
        edges.is("two needed, both good, below", x.chance(1, 1), 1);
    }

    private void chanceAnswers() {
        edges.of("Promise 19", "CHANCE: above (what = 0), below (1); NONE.");
        ThreeRiddles x = chances(0, 4, 3);
        edges.is("above", x.chance(0, 0), 1);
        edges.is("below", x.chance(0, 1), 4);
        edges.is("none", chances(0, 2, 2).chance(0, 0), Due.NONE);
        edges.is("none, without riddles", Due.told("k0,0;w0;").chance(0, 1), Due.NONE);
        edges.of("Promise 19", "BAD;");
        for (int out : new int[] {-1, 1, MAX, MIN}) {
            edges.is("suitor " + out, x.chance(out, 0), Due.BAD);
        }
        for (int out : new int[] {-1, 2, MAX, MIN}) {
            edges.is("what " + out, x.chance(0, out), Due.BAD);
        }
        edges.is("no court", new ThreeRiddles().chance(0, 0), Due.BAD);
        edges.of("Promise 19", "STATE: he does not COME.");
        ThreeRiddles y = Due.told("k0,0;t1;p1,0;p1,0;p2,0;p2,0;p2,0;w0;w0;w0;");
        y.asked(0, 0);
        y.inTurn(1, 1);
        edges.is("dead", y.chance(0, 0), Due.STATE);
        edges.is("free", y.chance(1, 1), Due.STATE);
        edges.is("BAD ahead of it", y.chance(1, 2), Due.BAD);
        edges.is("to come", y.chance(2, 0), 1);
        y.asked(2, 2);
        y.asked(2, 3);
        edges.is("right twice", y.chance(2, 0), 1);
        y.asked(2, 4);
        edges.is("wed", y.chance(2, 0), Due.STATE);
    }

    private void buys(ThreeRiddles x, int suitor, int things, int cost) {
        edges.is("things", x.toBuy(suitor, 0), things);
        edges.is("cost", x.toBuy(suitor, 1), cost);
    }

    private void whatToBuy() {
        edges.of("Terms 3", "BUY: THINGS (bits) that one does not KNOW and that are ANSWERS of RIDDLES not USED; "
                + "what all these COST.");
        ThreeRiddles x = Due.told("k0,3;t1;t1;t2;t4;p1,0;p2,0;p2,0;p4,0;p8,0;p0,0;w0;w15;w4;w8;");
        buys(x, 0, 1 + 4 + 8, 15);
        buys(x, 1, 0, 0);
        buys(x, 2, 1 + 8, 9);
        buys(x, 3, 1 + 4, 12);
        x.asked(1, 0);
        buys(x, 0, 1 + 4 + 8, 12);
        x.asked(1, 5);
        buys(x, 0, 4 + 8, 9);
        x.inTurn(3, 1);
        buys(x, 0, 4 + 8, 6);
        x.buy(0, 3);
        buys(x, 0, 4, 3);
        x.asked(1, 2);
        buys(x, 0, 0, 0);
        buys(Due.told("k0,99;t1;p1,0;p1,0;p1,0;p1,0;p1,0;p1,0;w0;"), 0, 1, 594);
        buys(Due.told("k0,0;t1;p1,0;w0;"), 0, 1, 0);
        buys(Due.told("k0,9;p0,0;w0;"), 0, 0, 0);
        buys(Due.told("k0,9;t1;w0;"), 0, 0, 0);
    }

    private void toBuyAnswers() {
        edges.of("Promise 20", "BUY: THINGS (what = 0), what they COST (1).");
        ThreeRiddles x = Due.told("k0,3;t1;t2;p1,0;p2,0;p2,0;w0;w1;");
        buys(x, 0, 3, 9);
        buys(x, 1, 2, 6);
        x.asked(0, 0);
        edges.is("dead", x.suitor(0, 1), 1);
        buys(x, 0, 2, 6);
        edges.of("Promise 20", "BAD.");
        for (int out : new int[] {-1, 2, MAX, MIN}) {
            edges.is("suitor " + out, x.toBuy(out, 0), Due.BAD);
            edges.is("what " + out, x.toBuy(0, out), Due.BAD);
        }
        edges.is("no court", new ThreeRiddles().toBuy(0, 0), Due.BAD);
    }

    private void whatBeatsHer() {
        edges.of("Terms 3", "BEATS: RIDDLES (bits) not USED to which she does not SAY ANSWER.");
        String rest = ",0;t1;t1;t2;p1,0;p2,0;p4,0;p0,0;p1,0;p2,0;w7;";
        int[] she = {0, 1, 2, 4, 5, 7};
        int[] beats = {59, 34, 59, 25, 0, 0};
        for (int k = 0; k < she.length; k++) {
            edges.is("SHE " + she[k], Due.told("k" + she[k] + rest).beats(), beats[k]);
        }
        edges.is("all", Due.told("k0,0;t1;" + "p1,0;".repeat(6)).beats(), 63);
        ThreeRiddles x = Due.told("k0" + rest);
        x.asked(0, 0);
        edges.is("one was used", x.beats(), 58);
        x.inTurn(0, 5);
        edges.is("two were used", x.beats(), 26);
        x.undo();
        edges.is("one again", x.beats(), 58);
        edges.of("Promise 21", "BEATS.");
        edges.is("beats", Due.told("k2" + rest).beats(), 59);
        edges.is("without riddles", Due.told("k0,0;t1;").beats(), 0);
        edges.is("without things", Due.told("k0,0;p0,0;").beats(), 0);
        edges.of("Promise 21", "STATE: no COURT.");
        ThreeRiddles none = new ThreeRiddles();
        edges.is("none", none.beats(), Due.STATE);
        Due.read(none, "k0,0");
        edges.is("none, behind a fault", none.beats(), Due.STATE);
        Due.read(none, "k0,0;");
        edges.is("one of nothing", none.beats(), 0);
    }

    private void tree(ThreeRiddles x, int set, int times, int trait) {
        edges.is("tree(" + set + ", 0)", x.tree(set, 0), times);
        edges.is("tree(" + set + ", 1)", x.tree(set, 1), trait);
    }

    private void treesOfFewThings() {
        edges.of("Terms 3", "TREE of a set of THINGS: asked by and by whether it has a TRAIT, how many times at most "
                + "to know which one it is (fewest; an empty set, a single one: 0);");
        ThreeRiddles x = Due.told("k0,0;t0;t1;t2;t4;t8;t16;t31;t7;");
        tree(x, 0, 0, Due.NONE);
        for (int thing = 0; thing < 8; thing++) {
            tree(x, 1 << thing, 0, Due.NONE);
        }
        tree(x, 3, 1, 0);
        tree(x, 1 + 32, 1, 4);
        edges.is("three", x.tree(7, 0), 2);
        edges.is("four", x.tree(15, 0), 3);
        edges.is("five", x.tree(31, 0), 4);
        edges.is("six", x.tree(63, 0), 5);
        tree(Due.told("k0,0;"), 0, 0, Due.NONE);
    }

    private void treesOfAllThings() {
        edges.of("Terms 3", "the TRAIT to be asked first (the least by which it is so; NONE: none need be asked);");
        tree(Due.told("k0,0;t0;t1;t2;t3;t4;t5;t6;t7;"), 255, 3, 0);
        tree(Due.told("k0,0;t0;t4;t8;t12;t16;t20;t24;t28;"), 255, 3, 2);
        tree(Due.told("k0,0;t0;t16;"), 3, 1, 4);
        tree(Due.told("k0,0;t0;t31;"), 3, 1, 0);
        tree(Due.told("k0,0;t1;t31;"), 3, 1, 1);
        // By TRAIT 0 three of four stay together, and two questions more are needed: by TRAIT 1 one more.
        tree(Due.told("k0,0;t1;t2;t4;t6;"), 15, 2, 1);
        // Asked first, TRAIT 0 is as good as TRAIT 1, though it sets one THING alone.
        tree(Due.told("k0,0;t1;t2;t4;"), 7, 2, 0);
        tree(Due.told("k0,0;t1;t2;t4;t8;t16;t0;"), 63, 5, 0);
        tree(Due.told("k0,0;t1;t2;t4;t8;t16;t0;"), 62, 4, 1);
        tree(Due.told("k0,0;t5;"), 1, 0, Due.NONE);
        ThreeRiddles another = Due.told("k0,0;t3;t0;t1;t2;");
        tree(another, 15, 2, 0);
        Due.read(another, "k0,0;t0;t16;t8;t24;");
        tree(another, 15, 2, 3);
        tree(another, 3, 1, 4);
    }

    private void treesOfThingsAlike() {
        edges.of("Terms 3", "NONE: two of them are alike.");
        ThreeRiddles x = Due.told("k0,0;t1;t2;t1;t31;t31;t0;t0;t4;");
        tree(x, 1 + 4, Due.NONE, Due.NONE);
        tree(x, 8 + 16, Due.NONE, Due.NONE);
        tree(x, 32 + 64, Due.NONE, Due.NONE);
        tree(x, 255, Due.NONE, Due.NONE);
        tree(x, 1 + 2 + 4, Due.NONE, Due.NONE);
        tree(x, 1 + 2, 1, 0);
        tree(x, 4, 0, Due.NONE);
        tree(x, 2 + 4 + 8 + 32 + 128, 3, 0);
    }

    private void treeAnswers() {
        edges.of("Promise 22", "TREE: how many times (what = 0), the first TRAIT (1); NONE.");
        ThreeRiddles x = Due.told("k0,0;t8;t12;t8;");
        edges.is("how many times", x.tree(3, 0), 1);
        edges.is("the first trait", x.tree(3, 1), 2);
        edges.is("none, alike", x.tree(5, 0), Due.NONE);
        edges.is("none, alike", x.tree(5, 1), Due.NONE);
        edges.is("none need be asked", x.tree(4, 1), Due.NONE);
        edges.of("Promise 22", "BAD: no set of THINGS;");
        for (int many = 0; many <= 8; many++) {
            ThreeRiddles y = Due.told("k0,0;" + "t0;t1;t2;t3;t4;t5;t6;t7;".substring(0, 3 * many));
            int[] times = {0, 0, 1, 2, 2, 3, 3, 3, 3};
            edges.is("all of " + many, y.tree((1 << many) - 1, 0), times[many]);
            edges.is("one beyond " + many, y.tree(1 << many, 0), Due.BAD);
            edges.is("one beyond " + many, y.tree(1 << many, 1), Due.BAD);
            edges.is("all bits", y.tree(-1, 0), Due.BAD);
            edges.is("max", y.tree(MAX, 0), Due.BAD);
            edges.is("min", y.tree(MIN, 0), Due.BAD);
        }
        for (int out : new int[] {-1, 2, MAX, MIN}) {
            edges.is("what " + out, x.tree(0, out), Due.BAD);
        }
        edges.of("Promise 22", "STATE: no COURT (ahead of BAD).");
        ThreeRiddles none = new ThreeRiddles();
        edges.is("tree(0, 0)", none.tree(0, 0), Due.STATE);
        edges.is("tree(-1, 0)", none.tree(-1, 0), Due.STATE);
        edges.is("tree(256, 2)", none.tree(256, 2), Due.STATE);
    }

    private void imageIsKept() {
        edges.of("Promise 24", "An IMAGE (0, 1) is kept of the COURT: 1.");
        ThreeRiddles x = Due.told(Due.COURT);
        edges.is("image 0", x.image(0), 1);
        x.asked(0, 0);
        edges.is("image 1", x.image(1), 1);
        edges.is("acts stay", x.count(8), 1);
        x.asked(0, 1);
        edges.is("image 1 anew", x.image(1), 1);
        x.asked(0, 2);
        x.restore(1);
        edges.is("the newer one", x.count(4), 3);
        x.restore(0);
        edges.is("the other one stayed", x.count(4), 0);
        edges.of("Promise 24", "BAD;");
        for (int k : new int[] {-1, 2, MAX, MIN}) {
            edges.is("image " + k, x.image(k), Due.BAD);
            edges.is("image " + k + " without a court", new ThreeRiddles().image(k), Due.BAD);
        }
        edges.of("Promise 24", "STATE: no COURT.");
        ThreeRiddles none = new ThreeRiddles();
        edges.is("image 0", none.image(0), Due.STATE);
        edges.is("image 1", none.image(1), Due.STATE);
        edges.is("none came of it", none.restore(0), Due.STATE);
        Due.read(none, "k0,0;");
        edges.is("a court of nothing", none.image(1), 1);
        edges.is("it is kept", none.restore(1), 1);
    }

    private void restoreBringsBack() {
        edges.of("Promise 25", "The COURT is as an IMAGE kept it (no ACT can be undone then): 1.");
        ThreeRiddles x = Due.told(Due.COURT);
        x.buy(3, 0);
        x.asked(3, 1);
        x.inTurn(2, 4);
        x.asked(1, 0);
        x.inTurn(3, 2);
        x.image(0);
        Due.read(x, "k3,9;t8;t9;g9,6;w3;w1;w0;w2;");
        x.buy(2, 0);
        edges.is("restore", x.restore(0), 1);
        int[] counts = {0, 6, 6, 4, 23, 1, 14, 21, 0, 0};
        for (int what = 0; what < 10; what++) {
            edges.is("count " + what, x.count(what), counts[what]);
        }
        edges.is("undo", x.undo(), Due.STATE);
        int[][] suitors = {{63, 0, 0, 0}, {9, 1, 0, 0}, {22, 3, 0, 1}, {1, 0, 1, 1}};
        for (int suitor = 0; suitor < 4; suitor++) {
            for (int what = 0; what < 4; what++) {
                edges.is("suitor " + suitor + ", " + what, x.suitor(suitor, what), suitors[suitor][what]);
            }
        }
        edges.is("things", x.thing(0) + x.thing(5), 3);
        edges.is("kinds", x.kind(0) * 10 + x.kind(4), 15);
        edges.is("sets", x.riddle(1, 0) * 10 + x.riddle(1, 1), 34);
        edges.is("fits", x.riddle(3, 2), 57);
        edges.is("its price", x.buy(3, 5), 0);
        edges.is("and again", x.restore(0), 1);
        edges.is("the image stayed", x.suitor(3, 0), 1);
        ThreeRiddles y = Due.told("k0,7;t1;p1,0;w0;");
        y.image(1);
        Due.read(y, "k0,8;");
        y.restore(1);
        edges.is("the price of the image", y.buy(0, 0), 7);
        edges.of("Promise 25", "BAD;");
        for (int k : new int[] {-1, 2, MAX, MIN}) {
            edges.is("restore " + k, x.restore(k), Due.BAD);
            edges.is("restore " + k + ", none was kept", new ThreeRiddles().restore(k), Due.BAD);
        }
        edges.of("Promise 25", "STATE: none was kept.");
        edges.is("1", x.restore(1), Due.STATE);
        edges.is("0", y.restore(0), Due.STATE);
        edges.is("acts stay then", y.undo(), 0);
    }
}
