/** FITS, SAYS and ACTS: their part of the terms, and promises 9 to 12 and 14 to 16. */
final class EdgeActs {
    private static final int MAX = Integer.MAX_VALUE, MIN = Integer.MIN_VALUE;
    /** RIDDLE 0 .. 2 for THING 0 .. 2, 3 for nothing, 4 for 0 or 1, 5 for 0; SHE KNOWS 1, and an answer costs 5. */
    private static final String COURT =
            "k2,5;t1;t3;t4;p1,2;p2,0;p4,0;p8,0;p1,0;p1,6;w7;w0;w3;w2;";

    private final Edges edges;

    EdgeActs(Edges edges) {
        this.edges = edges;
    }

    void run() {
        everyRiddleFitsAsTold();
        edgesOfEachKind();
        answerIsTheLeast();
        oneSaysTheLeastThatHeKnows();
        fairIsOneAlone();
        askedIsUsedThen();
        nothingWhereNothingFits();
        theThirdTimeIsWed();
        elseDead();
        nobodyIsAskedAnyMore();
        inTurnOnceAndFree();
        buyingCosts();
        actsAreKept();
        actsGoRound();
        everyActIsUndone();
        askedAnswers();
        askedIsRefused();
        inTurnAnswers();
        inTurnIsRefused();
        buyAnswers();
        buyIsRefused();
        undoAnswers();
        undoBringsAllBack();
        riddleTells();
        suitorTells();
        saysTells();
    }

    /** All RIDDLES there are, of each KIND, by all sets of TRAITS that a THING can have. */
    private void everyRiddleFitsAsTold() {
        edges.of("Terms 2", "A THING FITS a plain RIDDLE, if it has all TRAITS of YES, and none of NO;");
        everyRiddle(1);
        edges.of("Terms 2", "a double one so, or if it has all of NO, and none of YES;");
        everyRiddle(2);
        edges.of("Terms 2", "a sung one, if it has all of YES but one at most, and none of NO;");
        everyRiddle(3);
        edges.of("Terms 2", "a lying one, if it does not FIT a plain one with these;");
        everyRiddle(4);
        edges.of("Terms 2", "an unfair one so, and if it has none of NO.");
        everyRiddle(5);
    }

    private void everyRiddle(int kind) {
        for (int least = 0; least < 32; least += 8) {
            StringBuilder things = new StringBuilder("k0,0;");
            for (int traits = least; traits < least + 8; traits++) {
                things.append('t').append(traits).append(';');
            }
            for (int told = 0; told < 1024; told++) {
                int yes = told >> 5, no = told & 31;
                if ((yes & no) == 0) {
                    int want = 0;
                    for (int traits = least; traits < least + 8; traits++) {
                        want |= fits(kind, yes, no, traits) ? 1 << traits - least : 0;
                    }
                    String text = things.toString() + "?pdglu".charAt(kind) + yes + "," + no + ";";
                    edges.is(text, Due.told(text).riddle(0, 2), want);
                }
            }
        }
    }

    private static boolean fits(int kind, int yes, int no, int traits) {
        int yesHad = 0, yesLacked = 0, noHad = 0, noLacked = 0;
        for (int trait = 1; trait < 32; trait *= 2) {
            boolean has = traits / trait % 2 == 1;
            if (yes / trait % 2 == 1) {
                yesHad += has ? 1 : 0;
                yesLacked += has ? 0 : 1;
            }
            if (no / trait % 2 == 1) {
                noHad += has ? 1 : 0;
                noLacked += has ? 0 : 1;
            }
        }
        boolean plain = yesLacked == 0 && noHad == 0;
        return switch (kind) {
            case 1 -> plain;
            case 2 -> plain || noLacked == 0 && yesHad == 0;
            case 3 -> yesLacked <= 1 && noHad == 0;
            case 4 -> !plain;
            default -> !plain && noHad == 0;
        };
    }

    /** Of each KIND the last THING that FITS and the first that does not, by hand. */
    private void edgesOfEachKind() {
        edges.of("Terms 2", "A THING FITS a plain RIDDLE, if it has all TRAITS of YES, and none of NO;");
        fit("p0,0;", "t0;t31;", 3);
        fit("p31,0;", "t31;t30;t15;t0;", 1);
        fit("p0,31;", "t0;t1;t16;t31;", 1);
        edges.of("Terms 2", "a double one so, or if it has all of NO, and none of YES;");
        fit("d3,12;", "t3;t12;t19;t28;t0;t15;t13;t2;", 15);
        fit("d0,0;", "t0;t31;", 3);
        fit("d7,0;", "t7;t0;t24;t1;t6;", 7);
        edges.of("Terms 2", "a sung one, if it has all of YES but one at most, and none of NO;");
        fit("g7,8;", "t7;t6;t5;t3;t1;t15;t11;t23;", 15 + 128);
        fit("g1,0;", "t1;t0;", 3);
        fit("g3,0;", "t1;t2;t0;t28;", 3);
        fit("g0,1;", "t0;t1;", 1);
        edges.of("Terms 2", "a lying one, if it does not FIT a plain one with these;");
        fit("l3,4;", "t3;t2;t7;t0;t19;", 2 + 4 + 8);
        fit("l0,0;", "t0;t31;", 0);
        edges.of("Terms 2", "an unfair one so, and if it has none of NO.");
        fit("u3,4;", "t3;t2;t7;t0;t19;", 2 + 8);
        fit("u0,31;", "t0;t31;", 0);
        fit("u31,0;", "t31;t30;t0;", 6);
    }

    private void fit(String riddle, String things, int want) {
        edges.is(riddle + " of " + things, Due.told("k0,0;" + things + riddle).riddle(0, 2), want);
    }

    private void answerIsTheLeast() {
        edges.of("Terms 2", "ANSWER of a RIDDLE: the least THING that FITS; NONE.");
        String things = "k0,0;t1;t2;t3;t4;t5;t6;t7;t8;";
        edges.is("the first", Due.told(things + "p1,0;").riddle(0, 3), 0);
        edges.is("the second", Due.told(things + "p2,0;").riddle(0, 3), 1);
        edges.is("the last", Due.told(things + "p8,0;").riddle(0, 3), 7);
        edges.is("of all", Due.told(things + "p0,0;").riddle(0, 3), 0);
        edges.is("none", Due.told(things + "p16,0;").riddle(0, 3), Due.NONE);
        edges.is("none, without things", Due.told("k0,0;p0,0;").riddle(0, 3), Due.NONE);
    }

    private void oneSaysTheLeastThatHeKnows() {
        edges.of("Terms 2", "One SAYS the least THING that FITS of those he KNOWS (she of SHE); NONE.");
        String things = "t1;t2;t3;t4;t5;t6;t7;t9;";
        String riddles = "p1,0;p8,0;p16,0;p0,0;";
        ThreeRiddles x = Due.told("k212,0;" + things + riddles + "w212;w0;w255;w1;");
        int[][] says = {
            {2, Due.NONE, 0, 0},
            {7, Due.NONE, 7, Due.NONE},
            {Due.NONE, Due.NONE, Due.NONE, Due.NONE},
            {2, Due.NONE, 0, 0},
        };
        for (int riddle = 0; riddle < 4; riddle++) {
            for (int suitor = 0; suitor < 4; suitor++) {
                edges.is("says(" + suitor + ", " + riddle + ")", x.says(suitor, riddle), says[riddle][suitor]);
            }
            edges.is("she to " + riddle, x.riddle(riddle, 6), says[riddle][0]);
        }
        ThreeRiddles none = Due.told("k255,0;p0,0;w0;");
        edges.is("without things", none.says(0, 0), Due.NONE);
        edges.is("she without things", none.riddle(0, 6), Due.NONE);
        edges.is("she knows nothing", Due.told("k0,0;t0;p0,0;").riddle(0, 6), Due.NONE);
        edges.is("she knows what is not told", Due.told("k2,0;t0;p0,0;").riddle(0, 6), Due.NONE);
    }

    private void fairIsOneAlone() {
        edges.of("Terms 2", "A RIDDLE is FAIR, if one THING alone FITS.");
        ThreeRiddles x = Due.told("k0,0;t1;t3;t4;t4;t16;p2,0;p1,0;p8,0;p16,0;p4,0;p0,0;");
        int[] fair = {1, 0, 0, 1, 0, 0};
        for (int riddle = 0; riddle < 6; riddle++) {
            edges.is("riddle " + riddle, x.riddle(riddle, 5), fair[riddle]);
        }
        edges.is("of all, the only one", Due.told("k0,0;t1;p0,0;").riddle(0, 5), 1);
        edges.is("without things", Due.told("k0,0;p0,0;").riddle(0, 5), 0);
    }

    private void askedIsUsedThen() {
        edges.of("Terms 2", "A SUITOR who is to COME is ASKED a RIDDLE that was not USED (it is then):");
        ThreeRiddles x = Due.told(COURT);
        for (int riddle = 0; riddle < 2; riddle++) {
            edges.is("not used", x.riddle(riddle, 4), 0);
            x.asked(0, riddle);
            edges.is("used", x.riddle(riddle, 4), 1);
            edges.is("used in all", x.count(4), (2 << riddle) - 1);
        }
        edges.is("for another one, too", x.asked(2, 0), Due.STATE);
        x.asked(1, 5);
        edges.is("used by one who lost his head", x.count(4), 35);
        edges.is("his head is off", x.asked(1, 2), Due.STATE);
    }

    private void nothingWhereNothingFits() {
        edges.of("Terms 2", "if what he SAYS is ANSWER (nothing, where nothing FITS), he was RIGHT once more");
        for (int suitor = 0; suitor < 4; suitor++) {
            ThreeRiddles x = Due.told(COURT);
            edges.is("nothing", x.asked(suitor, 3), Due.NONE);
            edges.is("right", x.suitor(suitor, 2), 1);
            edges.is("to come", x.suitor(suitor, 1), 0);
        }
        ThreeRiddles y = Due.told(COURT);
        edges.is("nothing, where something fits", y.asked(1, 0), Due.NONE);
        edges.is("not right", y.suitor(1, 2), 0);
        edges.is("dead", y.suitor(1, 1), 1);
        ThreeRiddles z = Due.told(COURT);
        edges.is("what fits, but is not the least", z.asked(3, 4), 1);
        edges.is("not right", z.suitor(3, 2), 0);
        edges.is("dead", z.suitor(3, 1), 1);
    }

    private void theThirdTimeIsWed() {
        edges.of("Terms 2", "and is WED, if that was the third time;");
        ThreeRiddles x = Due.told(COURT);
        int[] riddles = {0, 2, 3};
        for (int time = 1; time <= 3; time++) {
            x.asked(0, riddles[time - 1]);
            edges.is("right", x.suitor(0, 2), time);
            edges.is("wed", x.suitor(0, 1), time == 3 ? 2 : 0);
        }
        ThreeRiddles y = Due.told(COURT);
        y.asked(0, 0);
        y.asked(2, 1);
        y.asked(0, 2);
        y.asked(2, 3);
        edges.is("four times, but two each", y.suitor(0, 1) + y.suitor(2, 1), 0);
        y.inTurn(2, 4);
        edges.is("asking is no time", y.suitor(2, 2), 2);
        y.asked(0, 5);
        edges.is("his third", y.suitor(0, 1), 2);
    }

    private void elseDead() {
        edges.of("Terms 2", "else he is DEAD.");
        ThreeRiddles first = Due.told(COURT);
        first.asked(1, 0);
        edges.is("the first time", first.suitor(1, 1), 1);
        ThreeRiddles third = Due.told(COURT);
        third.asked(2, 0);
        third.asked(2, 1);
        edges.is("the third time", third.asked(2, 2), Due.NONE);
        edges.is("dead", third.suitor(2, 1), 1);
        edges.is("right twice, as he was", third.suitor(2, 2), 2);
        edges.is("dead in all", third.count(5), 1);
    }

    private ThreeRiddles wedding() {
        ThreeRiddles x = Due.told(COURT);
        x.asked(0, 0);
        x.asked(0, 1);
        x.asked(0, 3);
        return x;
    }

    private void nobodyIsAskedAnyMore() {
        edges.of("Terms 2", "When one is WED nobody is ASKED any more.");
        ThreeRiddles x = wedding();
        for (int suitor = 0; suitor < 4; suitor++) {
            for (int riddle = 0; riddle < 6; riddle++) {
                edges.is("asked(" + suitor + ", " + riddle + ")", x.asked(suitor, riddle), Due.STATE);
            }
        }
        edges.is("used", x.count(4), 11);
        edges.is("undone", x.undo(), 2);
        edges.is("asked again", x.asked(2, 3), Due.NONE);
        edges.is("right", x.suitor(2, 2), 1);
    }

    private void inTurnOnceAndFree() {
        edges.of("Terms 2", "A SUITOR who is to COME, or was RIGHT, asks her IN TURN a RIDDLE "
                + "that was not USED (it is then), once:");
        ThreeRiddles x = Due.told(COURT);
        x.asked(0, 0);
        x.asked(0, 2);
        edges.is("right twice, she says 1", x.inTurn(0, 1), 1);
        edges.is("used", x.count(4), 7);
        edges.is("he asked", x.suitor(0, 3), 1);
        edges.is("once", x.inTurn(0, 3), Due.STATE);
        edges.is("he comes", x.asked(0, 3), Due.NONE);
        edges.is("and is wed", x.suitor(0, 1), 2);
        ThreeRiddles y = Due.told(COURT);
        edges.is("never right", y.inTurn(1, 1), 1);
        edges.is("another asks for himself", y.inTurn(2, 3), Due.NONE);
        edges.is("but not what was used", y.inTurn(3, 3), Due.STATE);
        edges.is("he did not ask", y.suitor(3, 3), 0);
        edges.of("Terms 2", "if what she SAYS is not ANSWER, he is FREE.");
        edges.is("she said the answer", y.suitor(1, 1), 0);
        edges.is("she said nothing, where nothing fits", y.suitor(2, 1), 0);
        edges.is("she says what fits, but is not the least", y.inTurn(3, 4), 1);
        edges.is("free", y.suitor(3, 1), 3);
        edges.is("she says nothing, where something fits", y.inTurn(0, 2), Due.NONE);
        edges.is("free", y.suitor(0, 1), 3);
        edges.is("nobody is dead", y.count(5), 0);
    }

    private void buyingCosts() {
        edges.of("Terms 2", "One BUYS a THING that he does not KNOW: he KNOWS it; what it COSTS is PAID: "
                + "PRICE for each RIDDLE that was not USED of which it is ANSWER.");
        ThreeRiddles x = Due.told(COURT);
        edges.is("of three riddles", x.buy(1, 0), 15);
        edges.is("of one", x.buy(1, 1), 5);
        edges.is("of one", x.buy(1, 2), 5);
        edges.is("knows", x.suitor(1, 0), 7);
        edges.is("paid", x.count(6), 25);
        x.asked(0, 5);
        edges.is("of two not used", x.buy(3, 0), 10);
        x.inTurn(0, 2);
        edges.is("of none not used", x.buy(3, 2), 0);
        edges.is("knows", x.suitor(3, 0), 7);
        edges.is("paid", x.count(6), 35);
        String dear = "k0,99;t1;t1;p1,0;p1,0;p1,0;p1,0;p1,0;p1,0;w0;w0;w0;w0;";
        ThreeRiddles y = Due.told(dear);
        for (int suitor = 0; suitor < 4; suitor++) {
            edges.is("six of 99", y.buy(suitor, 0), 594);
            edges.is("fits, but is no answer", y.buy(suitor, 1), 0);
            edges.is("paid", y.count(6), 594 * (suitor + 1));
        }
        ThreeRiddles free = Due.told(dear.replace("99", "0"));
        edges.is("for nothing", free.buy(0, 0), 0);
        edges.is("knows", free.suitor(0, 0), 1);
    }

    /** Four SUITORS who can buy eight THINGS each. */
    private static ThreeRiddles market() {
        return Due.told("k0,1;t0;t1;t2;t3;t4;t5;t6;t7;p1,0;p8,0;w0;w0;w0;w0;");
    }

    private void actsAreKept() {
        edges.of("Terms 2", "ACTS (24 at most are kept, of more the oldest is forgotten; "
                + "each can be undone, the latest first;");
        for (int acts : new int[] {1, 23, 24, 25, 32}) {
            ThreeRiddles x = market();
            for (int act = 0; act < acts; act++) {
                x.buy(act / 8, act % 8);
            }
            int kept = Math.min(acts, 24);
            edges.is(acts + " acts, kept", x.count(8), kept);
            for (int act = acts - 1; act >= acts - kept; act--) {
                edges.is("undo of " + act, x.undo(), act - acts + kept);
                edges.is("known then", x.suitor(act / 8, 0), (1 << act % 8) - 1);
            }
            edges.is("none is left of " + acts, x.undo(), Due.STATE);
            edges.is("what is forgotten stays", x.suitor(0, 0), (1 << acts - kept) - 1);
            edges.is("and is paid", x.count(6), acts > 25 ? 1 : 0);
        }
    }

    private void actsGoRound() {
        edges.of("Terms 2", "of more the oldest is forgotten; each can be undone, the latest first;");
        ThreeRiddles x = market();
        for (int round = 0; round < 3; round++) {
            for (int act = 0; act < 32; act++) {
                edges.is("buy", x.buy(act / 8, act % 8), act % 8 == 1 ? 1 : 0);
                edges.is("acts", x.count(8), Math.min(24, act + 1));
            }
            for (int act = 31; act >= 8; act--) {
                edges.is("undo", x.undo(), act - 8);
            }
            edges.is("none", x.undo(), Due.STATE);
            edges.is("the first keeps all", x.suitor(0, 0), 255);
            edges.is("the second has none", x.suitor(1, 0), 0);
            Due.read(x, "k0,1;t0;t1;t2;t3;t4;t5;t6;t7;p1,0;p8,0;w0;w0;w0;w0;");
        }
    }

    private void everyActIsUndone() {
        edges.of("Terms 2", "also such by which nothing becomes another)");
        ThreeRiddles x = Due.told("k1,0;t1;p1,0;p1,0;w1;w0;");
        x.inTurn(0, 0);
        x.buy(1, 0);
        edges.is("for nothing, and not free", x.count(6) + x.suitor(0, 1), 0);
        edges.is("acts", x.count(8), 2);
        edges.is("undo", x.undo(), 1);
        edges.is("knows", x.suitor(1, 0), 0);
        edges.is("undo", x.undo(), 0);
        edges.is("asked", x.suitor(0, 3), 0);
        edges.is("used", x.count(4), 0);
        ThreeRiddles y = Due.told(COURT);
        edges.of("Terms 2", ": one is ASKED;");
        y.asked(0, 0);
        y.asked(1, 1);
        edges.is("acts", y.count(8), 2);
        edges.is("a head undone", y.undo(), 1);
        edges.is("to come", y.suitor(1, 1), 0);
        edges.is("used", y.count(4), 1);
        edges.is("undo", y.undo(), 0);
        edges.is("right", y.suitor(0, 2), 0);
        edges.is("used", y.count(4), 0);
        edges.of("Terms 2", "asks IN TURN;");
        y.inTurn(0, 2);
        edges.is("free", y.suitor(0, 1), 3);
        edges.is("undo", y.undo(), 0);
        edges.is("to come", y.suitor(0, 1), 0);
        edges.is("he did not ask", y.suitor(0, 3), 0);
        edges.is("used", y.count(4), 0);
        edges.is("he can ask", y.inTurn(0, 2), Due.NONE);
        y.undo();
        edges.of("Terms 2", "BUYS.");
        y.buy(1, 0);
        y.buy(1, 2);
        edges.is("undo", y.undo(), 1);
        edges.is("knows", y.suitor(1, 0), 1);
        edges.is("paid", y.count(6), 15);
        edges.is("undo", y.undo(), 0);
        edges.is("knows", y.suitor(1, 0), 0);
        edges.is("paid", y.count(6), 0);
    }

    private void askedAnswers() {
        edges.of("Promise 9", "A SUITOR is ASKED a RIDDLE: what he SAYS; NONE: nothing.");
        for (int suitor = 0; suitor < 4; suitor++) {
            for (int riddle = 0; riddle < 6; riddle++) {
                ThreeRiddles x = Due.told(COURT);
                int says = x.says(suitor, riddle);
                edges.is("asked(" + suitor + ", " + riddle + ")", x.asked(suitor, riddle), says);
            }
        }
        edges.is("the right one", Due.told(COURT).asked(0, 2), 2);
        edges.is("another one", Due.told(COURT).asked(3, 4), 1);
        edges.is("nothing", Due.told(COURT).asked(1, 0), Due.NONE);
    }

    private void askedIsRefused() {
        edges.of("Promise 9", "BAD");
        ThreeRiddles x = Due.told(COURT);
        for (int suitor : new int[] {-1, 4, MAX, MIN}) {
            edges.is("suitor " + suitor, x.asked(suitor, 0), Due.BAD);
        }
        for (int riddle : new int[] {-1, 6, MAX, MIN}) {
            edges.is("riddle " + riddle, x.asked(0, riddle), Due.BAD);
        }
        edges.is("no suitor", Due.told("k0,0;p0,0;").asked(0, 0), Due.BAD);
        edges.is("no riddle", Due.told("k0,0;w0;").asked(0, 0), Due.BAD);
        edges.is("no court", new ThreeRiddles().asked(0, 0), Due.BAD);
        edges.is("acts", x.count(8), 0);
        edges.is("the last ones", x.asked(3, 5), Due.NONE);
        edges.of("Promise 9", "STATE: he does not COME");
        edges.is("dead", x.asked(3, 0), Due.STATE);
        x.inTurn(1, 2);
        edges.is("free", x.asked(1, 0), Due.STATE);
        edges.is("BAD ahead of it", x.asked(3, 6), Due.BAD);
        edges.is("wed", wedding().asked(0, 2), Due.STATE);
        edges.of("Promise 9", "it was USED");
        edges.is("by one who was asked", x.asked(0, 5), Due.STATE);
        edges.is("in turn", x.asked(0, 2), Due.STATE);
        edges.of("Promise 9", "one is WED.");
        edges.is("another comes", wedding().asked(2, 2), Due.STATE);
        edges.is("BAD ahead of it", wedding().asked(4, 2), Due.BAD);
        ThreeRiddles y = wedding();
        y.undo();
        edges.is("not any more", y.asked(2, 3), Due.NONE);
    }

    private void inTurnAnswers() {
        edges.of("Promise 10", "A SUITOR asks a RIDDLE IN TURN: what she SAYS; NONE: nothing.");
        int[] says = {Due.NONE, 1, Due.NONE, Due.NONE, 1, Due.NONE};
        int[] fate = {3, 0, 3, 0, 3, 3};
        for (int riddle = 0; riddle < 6; riddle++) {
            ThreeRiddles x = Due.told(COURT);
            edges.is("inTurn(0, " + riddle + ")", x.inTurn(0, riddle), says[riddle]);
            edges.is("what became of him", x.suitor(0, 1), fate[riddle]);
            edges.is("used", x.count(4), 1 << riddle);
        }
    }

    private void inTurnIsRefused() {
        edges.of("Promise 10", "BAD");
        ThreeRiddles x = Due.told(COURT);
        for (int suitor : new int[] {-1, 4, MAX, MIN}) {
            edges.is("suitor " + suitor, x.inTurn(suitor, 0), Due.BAD);
        }
        for (int riddle : new int[] {-1, 6, MAX, MIN}) {
            edges.is("riddle " + riddle, x.inTurn(0, riddle), Due.BAD);
        }
        edges.is("no suitor", Due.told("k0,0;p0,0;").inTurn(0, 0), Due.BAD);
        edges.is("no riddle", Due.told("k0,0;w0;").inTurn(0, 0), Due.BAD);
        edges.is("no court", new ThreeRiddles().inTurn(0, 0), Due.BAD);
        edges.is("acts", x.count(8), 0);
        edges.is("the last ones", x.inTurn(3, 5), Due.NONE);
        edges.of("Promise 10", "STATE: he does not COME");
        edges.is("free", x.inTurn(3, 0), Due.STATE);
        x.asked(1, 0);
        edges.is("dead", x.inTurn(1, 1), Due.STATE);
        edges.is("BAD ahead of it", x.inTurn(1, 6), Due.BAD);
        edges.is("wed", wedding().inTurn(0, 2), Due.STATE);
        edges.of("Promise 10", "it was USED");
        edges.is("in turn", x.inTurn(0, 5), Due.STATE);
        edges.is("by one who was asked", x.inTurn(0, 0), Due.STATE);
        edges.of("Promise 10", "he asked one");
        edges.is("his first", x.inTurn(0, 1), 1);
        edges.is("his second", x.inTurn(0, 3), Due.STATE);
        edges.is("another one's first", x.inTurn(2, 3), Due.NONE);
        x.undo();
        x.undo();
        edges.is("his first again", x.inTurn(0, 3), Due.NONE);
        edges.of("Promise 10", "one is WED.");
        edges.is("another comes", wedding().inTurn(2, 2), Due.STATE);
        ThreeRiddles y = wedding();
        y.undo();
        edges.is("not any more", y.inTurn(2, 3), Due.NONE);
    }

    private void buyAnswers() {
        edges.of("Promise 11", "A SUITOR BUYS a THING: what it COSTS.");
        ThreeRiddles x = Due.told(COURT);
        edges.is("three riddles", x.buy(3, 0), 15);
        edges.is("one riddle", x.buy(3, 2), 5);
        edges.is("again by another", x.buy(1, 2), 5);
        ThreeRiddles y = wedding();
        edges.is("also when another one is wed", y.buy(1, 2), 5);
        edges.is("he knows it", y.suitor(1, 0), 4);
    }

    private void buyIsRefused() {
        edges.of("Promise 11", "BAD");
        ThreeRiddles x = Due.told(COURT);
        for (int suitor : new int[] {-1, 4, MAX, MIN}) {
            edges.is("suitor " + suitor, x.buy(suitor, 0), Due.BAD);
        }
        for (int thing : new int[] {-1, 3, 8, 31, 32, MAX, MIN}) {
            edges.is("thing " + thing, x.buy(1, thing), Due.BAD);
        }
        edges.is("no suitor", Due.told("k0,0;t0;").buy(0, 0), Due.BAD);
        edges.is("no thing", Due.told("k0,0;w0;").buy(0, 0), Due.BAD);
        edges.is("no court", new ThreeRiddles().buy(0, 0), Due.BAD);
        edges.is("acts", x.count(8), 0);
        edges.is("the last ones", x.buy(3, 2), 5);
        edges.of("Promise 11", "STATE: he does not COME");
        x.asked(1, 0);
        edges.is("dead", x.buy(1, 0), Due.STATE);
        x.inTurn(2, 4);
        edges.is("free", x.buy(2, 2), Due.STATE);
        edges.is("BAD ahead of it", x.buy(2, 3), Due.BAD);
        ThreeRiddles wed = Due.told("k0,1;t1;t2;p4,0;p4,0;p4,0;p1,0;w0;");
        wed.asked(0, 0);
        wed.asked(0, 1);
        edges.is("right twice", wed.buy(0, 0), 1);
        wed.asked(0, 2);
        edges.is("wed", wed.buy(0, 1), Due.STATE);
        edges.of("Promise 11", "he KNOWS it.");
        edges.is("as told", x.buy(0, 0), Due.STATE);
        edges.is("as bought", x.buy(3, 2), Due.STATE);
        edges.is("paid", x.count(6), 5);
        ThreeRiddles y = Due.told(COURT);
        y.buy(3, 2);
        y.undo();
        edges.is("not any more", y.buy(3, 2), 5);
    }

    private void undoAnswers() {
        edges.of("Promise 12", "The latest ACT is undone: how many can be undone yet.");
        ThreeRiddles x = Due.told(COURT);
        x.buy(1, 0);
        x.asked(1, 0);
        x.inTurn(1, 2);
        for (int left = 2; left >= 0; left--) {
            edges.is("undo", x.undo(), left);
            edges.is("acts", x.count(8), left);
            edges.is("to come", x.suitor(1, 1), 0);
            edges.is("used", x.count(4), left == 2 ? 1 : 0);
            edges.is("right", x.suitor(1, 2), left == 2 ? 1 : 0);
            edges.is("knows", x.suitor(1, 0), left == 0 ? 0 : 1);
            edges.is("paid", x.count(6), left == 0 ? 0 : 15);
        }
        edges.of("Promise 12", "STATE: none.");
        edges.is("all were undone", x.undo(), Due.STATE);
        edges.is("no court", new ThreeRiddles().undo(), Due.STATE);
        edges.is("no act", Due.told(COURT).undo(), Due.STATE);
        x.asked(0, 0);
        x.asked(0, 0);
        edges.is("what was refused is none", x.undo(), 0);
        x.asked(0, 0);
        x.image(0);
        edges.is("behind an image", x.undo(), 0);
        x.asked(0, 0);
        x.restore(0);
        edges.is("behind a court restored", x.undo(), Due.STATE);
        x.asked(0, 1);
        Due.read(x, COURT);
        edges.is("behind a court read", x.undo(), Due.STATE);
        x.asked(0, 1);
        Due.read(x, "k");
        edges.is("behind a court not read", x.undo(), 0);
    }

    /** Behind each ACT, and again when the one behind it is undone: KNOWS, fate, RIGHT, IN TURN; USED, DEAD, PAID. */
    private void undoBringsAllBack() {
        edges.of("Promise 12", "The latest ACT is undone");
        ThreeRiddles x = Due.told(COURT);
        int[][] seen = new int[7][];
        seen[0] = all(x);
        x.inTurn(2, 1);
        seen[1] = all(x);
        x.asked(2, 0);
        seen[2] = all(x);
        x.asked(1, 5);
        seen[3] = all(x);
        x.buy(2, 2);
        seen[4] = all(x);
        x.asked(2, 2);
        seen[5] = all(x);
        x.asked(2, 3);
        seen[6] = all(x);
        edges.is("he is wed", seen[6][9], 2);
        for (int left = 5; left >= 0; left--) {
            edges.is("undo", x.undo(), left);
            int[] now = all(x);
            for (int k = 0; k < now.length; k++) {
                edges.is("with " + left + " left, " + k, now[k], seen[left][k]);
            }
        }
    }

    private static int[] all(ThreeRiddles x) {
        int[] seen = new int[19];
        for (int suitor = 0; suitor < 4; suitor++) {
            for (int what = 0; what < 4; what++) {
                seen[4 * suitor + what] = x.suitor(suitor, what);
            }
        }
        for (int what = 4; what < 7; what++) {
            seen[12 + what] = x.count(what);
        }
        return seen;
    }

    private void riddleTells() {
        ThreeRiddles x = Due.told(COURT);
        x.asked(0, 0);
        x.inTurn(1, 3);
        String[] words = {"Of a RIDDLE: 0 YES", "1 NO", "2 THINGS that FIT (bits)", "3 ANSWER (NONE)",
            "4 whether it was USED (1, 0)", "5 whether it is FAIR (1, 0)", "6 what she SAYS (NONE)"};
        int[][] want = {
            {1, 2, 4, 8, 1, 1},
            {2, 0, 0, 0, 0, 6},
            {1, 2, 4, 0, 3, 1},
            {0, 1, 2, Due.NONE, 0, 0},
            {1, 0, 0, 1, 0, 0},
            {1, 1, 1, 0, 0, 1},
            {Due.NONE, 1, Due.NONE, Due.NONE, 1, Due.NONE},
        };
        for (int what = 0; what < 7; what++) {
            edges.of("Promise 14", words[what]);
            for (int riddle = 0; riddle < 6; riddle++) {
                edges.is("riddle " + riddle, x.riddle(riddle, what), want[what][riddle]);
            }
        }
        edges.of("Promise 14", "BAD.");
        for (int out : new int[] {-1, 7, MAX, MIN}) {
            edges.is("riddle " + out, x.riddle(out, 0), Due.BAD);
            edges.is("what " + out, x.riddle(0, out), Due.BAD);
        }
        edges.is("riddle 6", x.riddle(6, 0), Due.BAD);
        edges.is("no riddle", Due.told("k0,0;t0;w0;").riddle(0, 0), Due.BAD);
        edges.is("no court", new ThreeRiddles().riddle(0, 0), Due.BAD);
    }

    private void suitorTells() {
        ThreeRiddles x = Due.told(COURT);
        x.asked(0, 0);
        x.inTurn(0, 3);
        x.asked(1, 5);
        x.inTurn(2, 4);
        x.buy(3, 0);
        String[] words = {"Of a SUITOR: 0 KNOWS (bits)", "1 to COME (0; also if he was RIGHT), DEAD (1)",
            "2 how often he was RIGHT", "3 whether he asked IN TURN (1, 0)"};
        int[][] want = {{7, 0, 3, 3}, {0, 1, 3, 0}, {1, 0, 0, 0}, {1, 0, 1, 0}};
        for (int what = 0; what < 4; what++) {
            edges.of("Promise 15", words[what]);
            for (int suitor = 0; suitor < 4; suitor++) {
                edges.is("suitor " + suitor, x.suitor(suitor, what), want[what][suitor]);
            }
        }
        edges.of("Promise 15", "WED (2)");
        edges.is("wed", wedding().suitor(0, 1), 2);
        edges.of("Promise 15", "FREE (3)");
        edges.is("free", x.suitor(2, 1), 3);
        edges.of("Promise 15", "BAD.");
        for (int out : new int[] {-1, 4, MAX, MIN}) {
            edges.is("suitor " + out, x.suitor(out, 0), Due.BAD);
            edges.is("what " + out, x.suitor(0, out), Due.BAD);
        }
        edges.is("no suitor", Due.told("k0,0;t0;p0,0;").suitor(0, 0), Due.BAD);
        edges.is("no court", new ThreeRiddles().suitor(0, 0), Due.BAD);
    }

    private void saysTells() {
        edges.of("Promise 16", "What a SUITOR SAYS to a RIDDLE; NONE.");
        ThreeRiddles x = Due.told(COURT);
        int[][] says = {
            {0, 1, 2, Due.NONE, 0, 0},
            {Due.NONE, Due.NONE, Due.NONE, Due.NONE, Due.NONE, Due.NONE},
            {0, 1, Due.NONE, Due.NONE, 0, 0},
            {Due.NONE, 1, Due.NONE, Due.NONE, 1, Due.NONE},
        };
        for (int time = 0; time < 2; time++) {
            for (int suitor = 0; suitor < 4; suitor++) {
                for (int riddle = 0; riddle < 6; riddle++) {
                    edges.is("says(" + suitor + ", " + riddle + ")", x.says(suitor, riddle), says[suitor][riddle]);
                }
            }
            // Also to what was USED, and of those who do not COME.
            x.asked(1, 0);
            x.inTurn(2, 2);
        }
        x.buy(3, 0);
        edges.is("by what he knows now", x.says(3, 4), 0);
        edges.of("Promise 16", "BAD.");
        for (int out : new int[] {-1, 6, MAX, MIN}) {
            edges.is("suitor " + out, x.says(out, 0), Due.BAD);
            edges.is("riddle " + out, x.says(0, out), Due.BAD);
        }
        edges.is("suitor 4", x.says(4, 0), Due.BAD);
        edges.is("no suitor", Due.told("k0,0;t0;p0,0;").says(0, 0), Due.BAD);
        edges.is("no riddle", Due.told("k0,0;t0;w0;").says(0, 0), Due.BAD);
        edges.is("no court", new ThreeRiddles().says(0, 0), Due.BAD);
    }
}
