/** Promises 9 to 12 and 14 to 16: FITS, SAYS, ACTS and undoing them. */
public final class ActsTest {
    private static final Due due = new Due();

    public static void main(String[] args) {
        riddlesAreTold();
        sortsFit();
        suitorsAreTold();
        suitorsSay();
        threeTimesRightIsWed();
        wrongIsDead();
        nothingIsRightWhereNothingFits();
        askedIsRefused();
        sheIsAskedInTurn();
        inTurnIsRefused();
        answersAreBought();
        buyIsRefused();
        actsAreUndone();
        theOldestActIsForgotten();
        due.end();
    }

    private static void riddlesAreTold() {
        ThreeRiddles x = Due.told(Due.COURT);
        int[][] told = {
            {1, 2, 26, 1, 0, 0, 4},
            {3, 4, 1, 0, 0, 1, 0},
            {6, 1, 4, 2, 0, 1, 2},
            {4, 0, 57, 0, 0, 0, 0},
            {1, 4, 32, 5, 0, 1, Due.NONE},
            {31, 0, 0, Due.NONE, 0, 0, Due.NONE},
        };
        for (int riddle = 0; riddle < told.length; riddle++) {
            for (int what = 0; what < 7; what++) {
                due.is("riddle(" + riddle + ", " + what + ")", x.riddle(riddle, what), told[riddle][what]);
            }
        }
        x.asked(0, 4);
        due.is("it was used", x.riddle(4, 4), 1);
        due.is("another was not", x.riddle(3, 4), 0);
        due.is("riddle -1", x.riddle(-1, 0), Due.BAD);
        due.is("riddle 6", x.riddle(6, 0), Due.BAD);
        due.is("what -1", x.riddle(0, -1), Due.BAD);
        due.is("what 7", x.riddle(0, 7), Due.BAD);
    }

    /** THINGS 0 .. 7 have just the TRAITS that are the bits of their numbers. */
    private static void sortsFit() {
        String things = "k0,0;t0;t1;t2;t3;t4;t5;t6;t7;";
        fit(things + "p3,4;", 1 << 3);
        fit(things + "p0,0;", 255);
        fit(things + "p0,1;", 1 + 4 + 16 + 64);
        fit(things + "d3,4;", 1 << 3 | 1 << 4);
        fit(things + "d1,0;", 255);
        fit(things + "d0,6;", 1 | 2 | 1 << 6 | 1 << 7);
        fit(things + "g3,4;", 1 << 1 | 1 << 2 | 1 << 3);
        fit(things + "g1,6;", 1 | 2);
        fit(things + "g7,0;", 1 << 3 | 1 << 5 | 1 << 6 | 1 << 7);
        fit(things + "g0,1;", 1 + 4 + 16 + 64);
        fit(things + "l3,4;", 255 - (1 << 3));
        fit(things + "l0,0;", 0);
        fit(things + "u3,4;", 1 | 2 | 4);
        fit(things + "u0,4;", 0);
        fit(things + "u8,0;", 255);
    }

    private static void fit(String text, int set) {
        ThreeRiddles x = Due.told(text);
        due.is("things that fit of " + text, x.riddle(0, 2), set);
    }

    private static void suitorsAreTold() {
        ThreeRiddles x = Due.told(Due.COURT);
        due.is("knows", x.suitor(0, 0), 63);
        due.is("knows", x.suitor(2, 0), 22);
        for (int what = 1; what < 4; what++) {
            due.is("at first, " + what, x.suitor(0, what), 0);
        }
        due.is("suitor -1", x.suitor(-1, 0), Due.BAD);
        due.is("suitor 4", x.suitor(4, 0), Due.BAD);
        due.is("what -1", x.suitor(0, -1), Due.BAD);
        due.is("what 4", x.suitor(0, 4), Due.BAD);
    }

    private static void suitorsSay() {
        ThreeRiddles x = Due.told(Due.COURT);
        due.is("all known: the answer", x.says(0, 0), 1);
        due.is("another that fits", x.says(1, 0), 3);
        due.is("the least that fits", x.says(2, 0), 1);
        due.is("nothing known", x.says(3, 0), Due.NONE);
        due.is("nothing fits", x.says(0, 5), Due.NONE);
        due.is("suitor -1", x.says(-1, 0), Due.BAD);
        due.is("suitor 4", x.says(4, 0), Due.BAD);
        due.is("riddle -1", x.says(0, -1), Due.BAD);
        due.is("riddle 6", x.says(0, 6), Due.BAD);
        x.asked(3, 0);
        due.is("the dead, of used ones", x.says(3, 0), Due.NONE);
        due.is("nothing changed", x.count(8), 1);
    }

    private static void threeTimesRightIsWed() {
        ThreeRiddles x = Due.told(Due.COURT);
        due.is("first", x.asked(0, 0), 1);
        due.is("right once", x.suitor(0, 2), 1);
        due.is("to come still", x.suitor(0, 1), 0);
        due.is("used", x.count(4), 1);
        due.is("second", x.asked(0, 3), 0);
        due.is("right twice", x.suitor(0, 2), 2);
        due.is("third", x.asked(0, 4), 5);
        due.is("right three times", x.suitor(0, 2), 3);
        due.is("wed", x.suitor(0, 1), 2);
        due.is("used", x.count(4), 25);
        due.is("nobody is asked any more", x.asked(1, 1), Due.STATE);
        due.is("nor asks in turn", x.inTurn(1, 1), Due.STATE);
        due.is("one may buy still", x.buy(1, 2), 7);
        due.is("not the wed one", x.chance(0, 0), Due.STATE);
        due.is("the other's chance", x.chance(1, 0), 1);
        x.undo();
        due.is("undone", x.undo(), 2);
        due.is("he comes again", x.suitor(0, 1), 0);
        due.is("asked again", x.asked(1, 1), 0);
    }

    private static void wrongIsDead() {
        ThreeRiddles x = Due.told(Due.COURT);
        due.is("another thing that fits", x.asked(1, 0), 3);
        due.is("dead", x.suitor(1, 1), 1);
        due.is("never right", x.suitor(1, 2), 0);
        due.is("one is dead", x.count(5), 1);
        due.is("says nothing", x.asked(3, 1), Due.NONE);
        due.is("two are dead", x.count(5), 2);
        due.is("both were used", x.count(4), 3);
    }

    private static void nothingIsRightWhereNothingFits() {
        ThreeRiddles x = Due.told(Due.COURT);
        due.is("nothing", x.asked(3, 5), Due.NONE);
        due.is("to come", x.suitor(3, 1), 0);
        due.is("right", x.suitor(3, 2), 1);
        ThreeRiddles y = Due.told(Due.COURT);
        due.is("she says nothing", y.inTurn(3, 5), Due.NONE);
        due.is("that is the answer", y.suitor(3, 1), 0);
        due.is("he asked", y.suitor(3, 3), 1);
    }

    private static void askedIsRefused() {
        ThreeRiddles x = Due.told(Due.COURT);
        due.is("suitor -1", x.asked(-1, 0), Due.BAD);
        due.is("suitor 4", x.asked(4, 0), Due.BAD);
        due.is("riddle -1", x.asked(0, -1), Due.BAD);
        due.is("riddle 6", x.asked(0, 6), Due.BAD);
        x.asked(0, 0);
        due.is("used", x.asked(0, 0), Due.STATE);
        x.asked(3, 1);
        due.is("dead", x.asked(3, 2), Due.STATE);
        due.is("BAD ahead of STATE", x.asked(3, 6), Due.BAD);
        x.inTurn(1, 4);
        due.is("free", x.asked(1, 2), Due.STATE);
        due.is("acts", x.count(8), 3);
        due.is("used", x.count(4), 19);
    }

    private static void sheIsAskedInTurn() {
        ThreeRiddles x = Due.told(Due.COURT);
        due.is("she says the answer", x.inTurn(0, 2), 2);
        due.is("he comes", x.suitor(0, 1), 0);
        due.is("he asked", x.suitor(0, 3), 1);
        due.is("it was used", x.count(4), 4);
        due.is("she says another", x.inTurn(1, 0), 4);
        due.is("he is free", x.suitor(1, 1), 3);
        due.is("she says nothing", x.inTurn(2, 4), Due.NONE);
        due.is("he is free", x.suitor(2, 1), 3);
        due.is("he asked", x.suitor(2, 3), 1);
        due.is("nobody is dead", x.count(5), 0);
        due.is("one who was right", x.asked(0, 1), 0);
        due.is("was right once", x.suitor(0, 2), 1);
        ThreeRiddles y = Due.told(Due.COURT);
        y.asked(0, 1);
        due.is("who was right asks", y.inTurn(0, 0), 4);
        due.is("he is free", y.suitor(0, 1), 3);
        due.is("was right once", y.suitor(0, 2), 1);
    }

    private static void inTurnIsRefused() {
        ThreeRiddles x = Due.told(Due.COURT);
        due.is("suitor -1", x.inTurn(-1, 0), Due.BAD);
        due.is("suitor 4", x.inTurn(4, 0), Due.BAD);
        due.is("riddle -1", x.inTurn(0, -1), Due.BAD);
        due.is("riddle 6", x.inTurn(0, 6), Due.BAD);
        x.inTurn(0, 2);
        due.is("he asked one", x.inTurn(0, 0), Due.STATE);
        due.is("used", x.inTurn(1, 2), Due.STATE);
        x.asked(3, 1);
        due.is("dead", x.inTurn(3, 0), Due.STATE);
        x.inTurn(1, 0);
        due.is("free", x.inTurn(1, 3), Due.STATE);
        due.is("BAD ahead of STATE", x.inTurn(1, 6), Due.BAD);
        due.is("acts", x.count(8), 3);
    }

    private static void answersAreBought() {
        ThreeRiddles x = Due.told(Due.COURT);
        due.is("answer of two", x.buy(3, 0), 14);
        due.is("he knows it", x.suitor(3, 0), 1);
        due.is("paid", x.count(6), 14);
        due.is("answer of none", x.buy(3, 3), 0);
        due.is("he knows it too", x.suitor(3, 0), 9);
        x.asked(0, 1);
        due.is("answer of one that was not used", x.buy(2, 0), 7);
        due.is("paid in all", x.count(6), 21);
        due.is("acts", x.count(8), 4);
        due.is("he says it", x.says(3, 3), 0);
    }

    private static void buyIsRefused() {
        ThreeRiddles x = Due.told(Due.COURT);
        due.is("suitor -1", x.buy(-1, 0), Due.BAD);
        due.is("suitor 4", x.buy(4, 0), Due.BAD);
        due.is("thing -1", x.buy(3, -1), Due.BAD);
        due.is("thing 6", x.buy(3, 6), Due.BAD);
        due.is("known", x.buy(0, 0), Due.STATE);
        x.asked(3, 0);
        due.is("dead", x.buy(3, 0), Due.STATE);
        due.is("BAD ahead of STATE", x.buy(3, 6), Due.BAD);
        x.inTurn(1, 4);
        due.is("free", x.buy(1, 1), Due.STATE);
        due.is("nothing was paid", x.count(6), 0);
        due.is("acts", x.count(8), 2);
    }

    private static void actsAreUndone() {
        ThreeRiddles x = Due.told(Due.COURT);
        due.is("none", x.undo(), Due.STATE);
        x.buy(3, 0);
        x.asked(3, 1);
        x.asked(3, 2);
        x.inTurn(2, 4);
        due.is("inTurn undone", x.undo(), 3);
        due.is("he comes", x.suitor(2, 1), 0);
        due.is("he asked none", x.suitor(2, 3), 0);
        due.is("used", x.count(4), 6);
        due.is("a head undone", x.undo(), 2);
        due.is("he comes", x.suitor(3, 1), 0);
        due.is("none is dead", x.count(5), 0);
        due.is("used", x.count(4), 2);
        due.is("right still", x.suitor(3, 2), 1);
        due.is("asked undone", x.undo(), 1);
        due.is("right no more", x.suitor(3, 2), 0);
        due.is("used", x.count(4), 0);
        due.is("buy undone", x.undo(), 0);
        due.is("he knows nothing", x.suitor(3, 0), 0);
        due.is("nothing was paid", x.count(6), 0);
        due.is("none yet", x.undo(), Due.STATE);
        due.is("and again", x.buy(3, 0), 14);
        due.is("one act", x.count(8), 1);
        x.inTurn(0, 2);
        x.asked(0, 1);
        x.asked(0, 0);
        due.is("his latest", x.undo(), 3);
        due.is("right once still", x.suitor(0, 2), 1);
        due.is("the one ahead", x.undo(), 2);
        due.is("he asked in turn still", x.suitor(0, 3), 1);
        due.is("that was used still", x.count(4), 4);
    }

    /** Four SUITORS buy eight THINGS each, of which the ACTS behind the 24th push the first ones out. */
    private static void theOldestActIsForgotten() {
        ThreeRiddles x = Due.told("k0,1;t0;t1;t2;t3;t4;t5;t6;t7;p1,0;w0;w0;w0;w0;");
        for (int act = 0; act < 32; act++) {
            x.buy(act / 8, act % 8);
            due.is("acts behind " + act, x.count(8), Math.min(act + 1, 24));
        }
        for (int act = 31; act >= 8; act--) {
            due.is("undo of " + act, x.undo(), act - 8);
            due.is("known by then", x.suitor(act / 8, 0), (1 << act % 8) - 1);
        }
        due.is("the rest is forgotten", x.undo(), Due.STATE);
        due.is("the first keeps all", x.suitor(0, 0), 255);
        due.is("paid", x.count(6), 1);
    }
}
