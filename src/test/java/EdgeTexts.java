/** TEXTS and FAULTS: their part of the terms, and promises 6, 7, 8 and 13. */
final class EdgeTexts {
    private static final int MAX = Integer.MAX_VALUE, MIN = Integer.MIN_VALUE;
    private static final String FIGURES = "0123456789";
    private static final String THINGS = "t0;t1;t2;t3;t4;t5;t6;t7;";
    private static final String RIDDLES = "p0,0;d0,0;g0,0;l0,0;u0,0;p0,0;";
    private static final String SUITORS = "w0;w0;w0;w0;";
    /** 120 bytes: all that there is room for, nearly all NUMBERS of three figures. */
    private static final String LONGEST = "k255,099;" + "t031;".repeat(5) + "t31;".repeat(3)
            + "p016,015;".repeat(6) + "w255;".repeat(4);

    private final Edges edges;

    EdgeTexts(Edges edges) {
        this.edges = edges;
    }

    void run() {
        tapeHasUpTo120Bytes();
        bytesComeOneByOne();
        lettersStandEachByItself();
        numbersHaveUpToThreeFigures();
        nothingElseStands();
        partsComeInOrder();
        lawHasItsNumbers();
        thingsHaveTheirTraits();
        eightThingsAtMost();
        sortsHaveTheirLetters();
        riddlesHaveTheirSets();
        noTraitIsInBoth();
        sixRiddlesAtMost();
        suitorsKnowThingsTold();
        fourSuitorsAtMost();
        courtStandsInPlaceOfTheOneBefore();
        courtIsNewAtFirst();
        imagesAndRowsStay();
        theFirstTokenHasTheFault();
        ofOneTokenTheLeast();
        runsOfFourFiguresAreNone();
        theEndIsHowManyBytes();
        numbersNotAsTold();
        moreThanThereIsRoomFor();
        feedTakesBytes();
        feedIsRefused();
        courtEmptiesTheTape();
        courtIsRefused();
        faultTellsTheLatest();
        thingTellsTraits();
    }

    private void read(String text, int suitors) {
        edges.is("court() of " + text, Due.read(new ThreeRiddles(), text), suitors);
    }

    private void faulty(String text, int place, int number) {
        edges.faulty(new ThreeRiddles(), text, place, number);
    }

    private void tapeHasUpTo120Bytes() {
        edges.of("Terms 1", "TEXTS: THE TAPE has at most 120 bytes");
        edges.is("bytes of the longest", LONGEST.length(), 120);
        read(LONGEST, 4);
        ThreeRiddles x = new ThreeRiddles();
        Due.feed(x, LONGEST);
        edges.is("one more", x.feed('x'), Due.FULL);
        edges.is("bytes", x.count(9), 120);
        edges.is("that is not read", x.court(), 4);
        ThreeRiddles cut = new ThreeRiddles();
        edges.faulty(cut, "k255,099;" + "t031;".repeat(6) + "t31;".repeat(2) + LONGEST.substring(46), 120, 1);
    }

    private void bytesComeOneByOne() {
        edges.of("Terms 1", ", that come one by one");
        ThreeRiddles x = new ThreeRiddles();
        for (int i = 0; i < 120; i++) {
            edges.is("byte " + i, x.feed(LONGEST.charAt(i)), i + 1);
            edges.is("bytes", x.count(9), i + 1);
        }
    }

    private void lettersStandEachByItself() {
        edges.of("Terms 1", "TOKENS: letters a to z (each by itself)");
        faulty("kk0,0;", 1, 1);
        faulty("k0,0;tt0;", 6, 1);
        faulty("k0,0;pd0,0;", 6, 1);
        faulty("k0,0;ww0;", 6, 1);
        for (char letter = 'a'; letter <= 'z'; letter++) {
            faulty("k0,0;" + letter, "tpdgluw".indexOf(letter) < 0 ? 5 : 6, 1);
        }
    }

    private void numbersHaveUpToThreeFigures() {
        edges.of("Terms 1", "NUMBERS (figures, 3 at most)");
        read("k0,0;t0;p0,0;w0;", 1);
        read("k00,00;t00;p00,00;w00;", 1);
        read("k000,000;t000;p000,000;w000;", 1);
        faulty("k0000,0;", 1, 1);
        faulty("k0,0000;", 3, 1);
        faulty("k0,0;t0000;", 6, 1);
        faulty("k0,0;p0000,0;", 6, 1);
        faulty("k0,0;p0,0000;", 8, 1);
        faulty("k0,0;w0000;", 6, 1);
        ThreeRiddles x = Due.told("k003,099;t031;t010;p001,002;w002;");
        edges.is("SHE", x.count(7), 3);
        edges.is("thing 1", x.thing(1), 10);
        edges.is("NO", x.riddle(0, 1), 2);
        edges.is("KNOWS", x.suitor(0, 0), 2);
    }

    /** All 256 bytes at each place of a text: what cannot stand there, or is none, is FAULT 1 there. */
    private void nothingElseStands() {
        edges.of("Terms 1", "SIGNS , and ; nothing else, no blanks.");
        String four = "k0,0;t0;t0;t0;t0;";
        goesOn("", "k");
        goesOn("k", FIGURES);
        goesOn("k0", FIGURES + ",");
        goesOn("k0,", FIGURES);
        goesOn("k0,0", FIGURES + ";");
        goesOn("k0,0;", "tpdgluw");
        goesOn("k0,0;t", FIGURES);
        goesOn("k0,0;t0", FIGURES + ";");
        goesOn("k0,0;t0;", "tpdgluw");
        for (char sort : "pdglu".toCharArray()) {
            String riddle = "k0,0;" + sort;
            goesOn(riddle, FIGURES);
            goesOn(riddle + "0", FIGURES + ",");
            goesOn(riddle + "0,", FIGURES);
            goesOn(riddle + "0,0", FIGURES + ";");
            goesOn(riddle + "0,0;", "pdgluw");
        }
        goesOn(four + "w", FIGURES);
        goesOn(four + "w0", FIGURES + ";");
        goesOn(four + "w0;", "w");
        faulty(" k0,0;", 0, 1);
        faulty("k 0,0;", 1, 1);
        faulty("k0 ,0;", 2, 1);
        faulty("k0,0; ", 5, 1);
        faulty("k0,0;\n", 5, 1);
    }

    private void goesOn(String begun, String with) {
        for (int b = 0; b < 256; b++) {
            String text = begun + (char) b;
            boolean goes = with.indexOf(b) >= 0;
            if (b == ';' && goes) {
                read(text, text.indexOf('w') < 0 ? 0 : 1);
            } else {
                faulty(text, goes ? text.length() : begun.length(), 1);
            }
        }
    }

    private void partsComeInOrder() {
        edges.of("Terms 1", "court: law { thing } { riddle } { suitor }.");
        read("k0,0;", 0);
        read("k0,0;t0;", 0);
        read("k0,0;p0,0;", 0);
        read("k0,0;w0;", 1);
        read("k0,0;t0;w0;w0;", 2);
        read("k0,0;p0,0;w0;", 1);
        read("k0,0;t0;p0,0;", 0);
        faulty("t0;", 0, 1);
        faulty("p0,0;", 0, 1);
        faulty("w0;", 0, 1);
        faulty("k0,0;k0,0;", 5, 1);
        faulty("k0,0;t0;k0,0;", 8, 1);
        faulty("k0,0;p0,0;t0;", 10, 1);
        faulty("k0,0;w0;t0;", 8, 1);
        faulty("k0,0;w0;p0,0;", 8, 1);
        faulty("k0,0;w0;u0,0;", 8, 1);
        faulty("k0,0;w0;k0,0;", 8, 1);
    }

    private void lawHasItsNumbers() {
        edges.of("Terms 1", "law: k SHE , PRICE ; (a set of THINGS 0 to 7, 0 to 255, "
                + "of which those that are told matter; 0 to 99).");
        read("k255,99;", 0);
        faulty("k256,0;", 1, 2);
        faulty("k999,0;", 1, 2);
        faulty("k0,100;", 3, 2);
        faulty("k0,999;", 3, 2);
        edges.is("SHE, of none told", Due.told("k255,0;").count(7), 0);
        edges.is("SHE, of one told", Due.told("k255,0;t0;").count(7), 1);
        edges.is("SHE, of one told that is not hers", Due.told("k254,0;t0;").count(7), 0);
        edges.is("SHE, of seven told", Due.told("k255,0;" + THINGS.substring(3)).count(7), 127);
        edges.is("SHE, of all told", Due.told("k255,0;" + THINGS).count(7), 255);
        edges.is("SHE, the last alone", Due.told("k128,0;" + THINGS).count(7), 128);
        edges.is("SHE, none", Due.told("k0,0;" + THINGS).count(7), 0);
        edges.is("PRICE 99", Due.told("k0,99;t1;p1,0;w0;").buy(0, 0), 99);
        edges.is("PRICE 0", Due.told("k0,0;t1;p1,0;w0;").buy(0, 0), 0);
    }

    private void thingsHaveTheirTraits() {
        edges.of("Terms 1", "thing: t TRAITS ; (a set of TRAITS 0 to 4, 0 to 31;");
        for (int traits = 0; traits < 32; traits++) {
            edges.is("traits", Due.told("k0,0;t" + traits + ";").thing(0), traits);
        }
        faulty("k0,0;t32;", 6, 2);
        faulty("k0,0;t999;", 6, 2);
    }

    private void eightThingsAtMost() {
        edges.of("Terms 1", "THINGS 0 .. 7, 8 at most).");
        for (int many = 0; many <= 8; many++) {
            ThreeRiddles x = Due.told("k0,0;" + THINGS.substring(0, 3 * many));
            edges.is("things", x.count(1), many);
            edges.is("no thing " + many, x.thing(many), Due.BAD);
            edges.is("the last one", x.thing(many - 1), many == 0 ? Due.BAD : many - 1);
        }
        faulty("k0,0;" + THINGS + "t0;", 29, 3);
    }

    private void sortsHaveTheirLetters() {
        edges.of("Terms 1", "riddle: SORT YES , NO ; (SORT: p a plain one, d a double one, g a sung one, "
                + "l a lying one, u an unfair one;");
        for (int kind = 1; kind <= 5; kind++) {
            ThreeRiddles x = Due.told("k0,0;" + "?pdglu".charAt(kind) + "5,18;");
            edges.is("kind", x.kind(0), kind);
            edges.is("YES", x.riddle(0, 0), 5);
            edges.is("NO", x.riddle(0, 1), 18);
        }
    }

    private void riddlesHaveTheirSets() {
        edges.of("Terms 1", "sets of TRAITS, 0 to 31");
        for (char sort : "pdglu".toCharArray()) {
            read("k0,0;" + sort + "31,0;", 0);
            read("k0,0;" + sort + "0,31;", 0);
            read("k0,0;" + sort + "0,0;", 0);
            faulty("k0,0;" + sort + "32,0;", 6, 2);
            faulty("k0,0;" + sort + "0,32;", 8, 2);
            faulty("k0,0;" + sort + "999,0;", 6, 2);
            faulty("k0,0;" + sort + "0,999;", 8, 2);
        }
    }

    private void noTraitIsInBoth() {
        edges.of("Terms 1", ", of which none is in both;");
        for (char sort : "pdglu".toCharArray()) {
            for (int trait = 0; trait < 5; trait++) {
                int one = 1 << trait;
                read("k0,0;" + sort + one + "," + (31 - one) + ";", 0);
                faulty("k0,0;" + sort + "31," + one + ";", 9, 2);
                read("k0,0;" + sort + (31 - one) + "," + one + ";", 0);
            }
        }
        faulty("k0,0;p31,31;", 9, 2);
        faulty("k0,0;p1,1;", 8, 2);
    }

    private void sixRiddlesAtMost() {
        edges.of("Terms 1", "RIDDLES 0 .. 5, 6 at most).");
        for (int many = 0; many <= 6; many++) {
            ThreeRiddles x = Due.told("k0,0;" + RIDDLES.substring(0, 5 * many));
            edges.is("riddles", x.count(2), many);
            edges.is("no riddle " + many, x.kind(many), Due.BAD);
        }
        for (char sort : "pdglu".toCharArray()) {
            faulty("k0,0;" + RIDDLES + sort + "0,0;", 35, 3);
        }
    }

    private void suitorsKnowThingsTold() {
        edges.of("Terms 1", "suitor: w KNOWS ; (bits of THINGS told;");
        for (int many = 0; many <= 8; many++) {
            String told = "k0,0;" + THINGS.substring(0, 3 * many) + "w";
            int all = (1 << many) - 1;
            edges.is("all of " + many, Due.told(told + all + ";").suitor(0, 0), all);
            edges.is("none of " + many, Due.told(told + "0;").suitor(0, 0), 0);
            faulty(told + (all + 1) + ";", told.length(), 2);
            faulty(told + "999;", told.length(), 2);
        }
    }

    private void fourSuitorsAtMost() {
        edges.of("Terms 1", "SUITORS 0 .. 3, 4 at most).");
        for (int many = 0; many <= 4; many++) {
            ThreeRiddles x = new ThreeRiddles();
            edges.is("court()", Due.read(x, "k0,0;" + SUITORS.substring(0, 3 * many)), many);
            edges.is("suitors", x.count(3), many);
            edges.is("no suitor " + many, x.suitor(many, 0), Due.BAD);
        }
        faulty("k0,0;" + SUITORS + "w0;", 17, 3);
    }

    private void courtStandsInPlaceOfTheOneBefore() {
        edges.of("Terms 1", "A COURT that is read stands in place of the one before (none at first):");
        ThreeRiddles x = new ThreeRiddles();
        edges.is("none at first", x.beats(), Due.STATE);
        Due.read(x, "k255,9;" + THINGS + RIDDLES + "w255;w255;w255;w255;");
        edges.is("a court", x.beats(), 0);
        edges.is("another", Due.read(x, "k0,1;t5;g7,8;w1;"), 1);
        edges.is("things", x.count(1), 1);
        edges.is("thing 0", x.thing(0), 5);
        edges.is("thing 1", x.thing(1), Due.BAD);
        edges.is("riddles", x.count(2), 1);
        edges.is("kind", x.kind(0), 3);
        edges.is("things that fit", x.riddle(0, 2), 1);
        edges.is("riddle 1", x.riddle(1, 0), Due.BAD);
        edges.is("suitor 1", x.suitor(1, 0), Due.BAD);
        edges.is("SHE", x.count(7), 0);
        edges.is("one of nothing", Due.read(x, "k255,0;"), 0);
        edges.is("things", x.count(1), 0);
        edges.is("riddles", x.count(2), 0);
        edges.is("suitors", x.count(3), 0);
        edges.is("SHE", x.count(7), 0);
        edges.is("a court still", x.beats(), 0);
    }

    private void courtIsNewAtFirst() {
        ThreeRiddles x = Due.told(Due.COURT);
        x.asked(0, 1);
        x.asked(3, 0);
        x.inTurn(2, 4);
        x.inTurn(0, 2);
        x.buy(1, 1);
        Due.read(x, Due.COURT);
        edges.of("Terms 1", "no RIDDLE was USED");
        edges.is("used", x.count(4), 0);
        for (int riddle = 0; riddle < 6; riddle++) {
            edges.is("riddle " + riddle, x.riddle(riddle, 4), 0);
        }
        edges.of("Terms 1", "all SUITORS are to COME");
        for (int suitor = 0; suitor < 4; suitor++) {
            for (int what = 1; what < 4; what++) {
                edges.is("suitor " + suitor + ", " + what, x.suitor(suitor, what), 0);
            }
        }
        edges.is("dead", x.count(5), 0);
        edges.is("what was bought is told anew", x.suitor(1, 0), 9);
        edges.of("Terms 1", "nothing was PAID");
        edges.is("paid", x.count(6), 0);
        edges.of("Terms 1", "no ACT can be undone");
        edges.is("acts", x.count(8), 0);
        edges.is("undo", x.undo(), Due.STATE);
    }

    private void imagesAndRowsStay() {
        edges.of("Terms 1", "IMAGES and ROWS stay.");
        ThreeRiddles x = Due.told(Due.COURT);
        x.asked(0, 1);
        x.image(0);
        Due.read(x, "k0,3;t1;");
        x.image(1);
        x.row(7, 0, 2);
        x.set(7, 1, 4);
        Due.read(x, Edges.ITEMS);
        edges.is("rows", x.count(0), 1);
        edges.items(x, 7, 0, 4);
        edges.is("image 0", x.restore(0), 1);
        edges.is("used", x.count(4), 2);
        edges.is("things", x.count(1), 6);
        edges.is("image 1", x.restore(1), 1);
        edges.is("things", x.count(1), 1);
    }

    private void theFirstTokenHasTheFault() {
        edges.of("Terms 1", "FAULTS, the first TOKEN that has one (its first byte)");
        faulty("k256,100;", 1, 2);
        faulty("k0,100;t32;", 3, 2);
        faulty("k0,0;t32;?", 6, 2);
        faulty("k0,0;?;t32;", 5, 1);
        faulty("k0,0;p1,3;w9;", 8, 2);
        faulty("k0,0;t031;t032;w9;", 11, 2);
        faulty("k0,0;p31,032;", 9, 2);
        faulty("k0,0;" + THINGS + "p1,1;t0;", 32, 2);
        faulty("k0,0;" + THINGS + "t32;", 29, 3);
    }

    private void ofOneTokenTheLeast() {
        edges.of("Terms 1", "of one TOKEN the least: 1 it cannot stand there, or is none");
        faulty("k0,0;" + THINGS + "p0,0;t0;", 34, 1);
        faulty("k0,0;" + RIDDLES + "w0;p0,0;", 38, 1);
        faulty("k0,0;" + THINGS + "w0;t0;", 32, 1);
        faulty("k0,0;" + SUITORS + "t0;", 17, 1);
        faulty("k0,0;" + SUITORS + "p0,0;", 17, 1);
        faulty("k9999,0;", 1, 1);
        faulty("k0,0;999;", 5, 1);
        faulty("k0,0;t0,999;", 7, 1);
        faulty("k0,0;K", 5, 1);
    }

    private void runsOfFourFiguresAreNone() {
        edges.of("Terms 1", "(a run of four figures or more, at its first;");
        faulty("k999,0;", 1, 2);
        faulty("k0001,0;", 1, 1);
        faulty("k9999", 1, 1);
        faulty("k00001,0;", 1, 1);
        faulty("0000", 0, 1);
        faulty("k" + "0".repeat(119), 1, 1);
        faulty("k" + "9".repeat(119), 1, 1);
        faulty("k0," + "4294967296", 3, 1);
        faulty("k0,0;" + "0".repeat(115), 5, 1);
    }

    private void theEndIsHowManyBytes() {
        edges.of("Terms 1", "the end: how many bytes there are);");
        String text = "k1,2;t3;p1,2;w1;";
        for (int length = 0; length <= text.length(); length++) {
            String cut = text.substring(0, length);
            boolean whole = cut.endsWith(";");
            edges.is("court() of " + cut, Due.read(new ThreeRiddles(), cut),
                    whole ? cut.indexOf('w') < 0 ? 0 : 1 : Due.FAULT - length);
        }
        faulty("", 0, 1);
        faulty(LONGEST.substring(0, 119), 119, 1);
        faulty("k0,0;" + THINGS + "t", 29, 3);
    }

    private void numbersNotAsTold() {
        edges.of("Terms 1", "2 a NUMBER that is not as told;");
        faulty("k256", 1, 2);
        faulty("k0,100", 3, 2);
        faulty("k0,0;t32", 6, 2);
        faulty("k0,0;u32", 6, 2);
        faulty("k0,0;u0,32", 8, 2);
        faulty("k0,0;u16,16", 9, 2);
        faulty("k0,0;w1", 6, 2);
        faulty("k0,0;t0;w2", 9, 2);
    }

    private void moreThanThereIsRoomFor() {
        edges.of("Terms 1", "3 a thing, a riddle, a suitor more than there is room for (its letter).");
        faulty("k0,0;" + THINGS + "t", 29, 3);
        faulty("k0,0;" + THINGS + "t?", 29, 3);
        faulty("k0,0;" + RIDDLES + "u", 35, 3);
        faulty("k0,0;" + RIDDLES + "p1,1;", 35, 3);
        faulty("k0,0;" + SUITORS + "w", 17, 3);
        faulty("k0,0;" + SUITORS + "w1;", 17, 3);
        read("k0,0;" + THINGS + RIDDLES + SUITORS, 4);
    }

    private void feedTakesBytes() {
        edges.of("Promise 6", "A byte (0 to 255) comes behind the tape: how many it has.");
        ThreeRiddles x = new ThreeRiddles();
        edges.is("feed(0)", x.feed(0), 1);
        edges.is("feed(255)", x.feed(255), 2);
        edges.is("feed(128)", x.feed(128), 3);
        ThreeRiddles y = new ThreeRiddles();
        Due.feed(y, "k0,0;t3");
        edges.is("behind it", y.feed('1'), 8);
        edges.is("behind that", y.feed(';'), 9);
        y.court();
        edges.is("thing", y.thing(0), 31);
    }

    private void feedIsRefused() {
        edges.of("Promise 6", "BAD");
        ThreeRiddles x = new ThreeRiddles();
        for (int letter : new int[] {-1, 256, 'k' + 256, 'k' - 256, MAX, MIN}) {
            edges.is("feed(" + letter + ")", x.feed(letter), Due.BAD);
        }
        edges.is("bytes", x.count(9), 0);
        edges.of("Promise 6", "FULL");
        for (int i = 1; i <= 120; i++) {
            edges.is("byte", x.feed('k'), i);
        }
        edges.is("byte 121", x.feed('k'), Due.FULL);
        edges.is("byte 121, of 0", x.feed(0), Due.FULL);
        edges.is("byte 121, of 255", x.feed(255), Due.FULL);
        edges.is("BAD ahead of it", x.feed(-1), Due.BAD);
        edges.is("BAD ahead of it", x.feed(256), Due.BAD);
        edges.is("bytes", x.count(9), 120);
        x.court();
        edges.is("room again", x.feed('k'), 1);
    }

    private void courtEmptiesTheTape() {
        edges.of("Promise 7", "The tape, empty then, is read: how many SUITORS there are.");
        ThreeRiddles x = new ThreeRiddles();
        for (int suitors = 0; suitors <= 4; suitors++) {
            edges.is("court()", Due.read(x, "k0,0;" + SUITORS.substring(0, 3 * suitors)), suitors);
            edges.is("bytes", x.count(9), 0);
        }
        edges.is("of an empty tape", x.court(), Due.FAULT);
        edges.is("the suitors stay", x.count(3), 4);
    }

    private void courtIsRefused() {
        edges.of("Promise 7", "-1000100 less the place of a FAULT: all stays, but the tape is empty then, "
                + "and fault() tells this one.");
        ThreeRiddles x = Due.told(Due.COURT);
        x.buy(3, 0);
        x.asked(0, 1);
        edges.faulty(x, "?", 0, 1);
        edges.is("bytes", x.count(9), 0);
        edges.faulty(x, "k255,99;t31;t31;p31,0;w3;w4;", 26, 2);
        edges.is("bytes", x.count(9), 0);
        edges.is("things", x.count(1), 6);
        edges.is("riddles", x.count(2), 6);
        edges.is("suitors", x.count(3), 4);
        edges.is("used", x.count(4), 2);
        edges.is("paid", x.count(6), 14);
        edges.is("SHE", x.count(7), 21);
        edges.is("acts", x.count(8), 2);
        edges.is("traits", x.thing(0), 3);
        edges.is("YES", x.riddle(0, 0), 1);
        edges.is("fits", x.riddle(0, 2), 26);
        edges.is("knows", x.suitor(3, 0), 1);
        edges.is("undo", x.undo(), 1);
        edges.is("its price", x.buy(2, 0), 14);
        ThreeRiddles none = new ThreeRiddles();
        edges.faulty(none, "k0,0;t1;w2;", 9, 2);
        edges.is("none still", none.beats(), Due.STATE);
        edges.is("no thing", none.thing(0), Due.BAD);
    }

    private void faultTellsTheLatest() {
        edges.of("Promise 8", "The number of the latest FAULT;");
        ThreeRiddles x = new ThreeRiddles();
        edges.faulty(x, "k0,0;" + SUITORS + "w", 17, 3);
        edges.faulty(x, "k256", 1, 2);
        edges.faulty(x, "", 0, 1);
        edges.faulty(x, "k0,0;" + THINGS + "t", 29, 3);
        Due.read(x, "k0,0;");
        edges.is("behind a court that is read", x.fault(), 3);
        x.image(0);
        x.restore(0);
        edges.is("behind a court restored", x.fault(), 3);
        edges.of("Promise 8", "0 before one.");
        ThreeRiddles y = new ThreeRiddles();
        edges.is("of a new object", y.fault(), 0);
        y.feed('?');
        y.feed(256);
        edges.is("not read yet", y.fault(), 0);
        ThreeRiddles z = Due.told(Due.COURT);
        z.asked(9, 9);
        z.set(0, 0, 0);
        edges.is("other refusals are none", z.fault(), 0);
    }

    private void thingTellsTraits() {
        edges.of("Promise 13", "TRAITS of a THING (bits).");
        ThreeRiddles x = Due.told("k0,0;t0;t31;t1;t16;t5;t10;t21;t30;");
        int[] traits = {0, 31, 1, 16, 5, 10, 21, 30};
        for (int thing = 0; thing < 8; thing++) {
            edges.is("thing " + thing, x.thing(thing), traits[thing]);
        }
        edges.of("Promise 13", "BAD");
        for (int thing : new int[] {-1, 8, MAX, MIN}) {
            edges.is("thing " + thing, x.thing(thing), Due.BAD);
        }
        edges.is("thing 0 without a court", new ThreeRiddles().thing(0), Due.BAD);
        edges.is("thing 0 of none", Due.told("k0,0;p0,0;w0;").thing(0), Due.BAD);
    }
}
