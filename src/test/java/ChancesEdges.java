/** Promises 27 to 33: chances that flow, runs by seeds, rows of moves. */
final class ChancesEdges extends Edge {
    private static final int ALL = 1000000000;
    private static final String NOBODY = "people 2;keeps 0 0;keeps 1 1;";
    /** Person 0 keeps 1: the odd ones are states. */
    private static final String KEEPER = "keeps 0 1;";
    private static final int[] NO_STATES = {LOW, -1, 16, 17, 1024, HIGH};

    private ChancesEdges() {
    }

    // ---- promise 27

    static void p27RoundsFromNoneTo400() {
        promise(27, "FLOW from a STATE for so many rounds (0 .. 400) with q: 1");
        CustomValley x = new CustomValley();
        due("flow(3, 0, 2)", x.flow(3, 0, 2), 1);
        due("parts(3): no round", x.parts(3), ALL);
        due("flow(0, 400, 2)", x.flow(0, 400, 2), 1);
        NaiveValley v = new NaiveValley();
        v.meetAll();
        v.solve();
        long[] parts = v.flow(0, 400, 2);
        for (int s = 0; s < 16; s++) {
            due("parts(" + s + ") behind 400 rounds", x.parts(s), parts[s]);
        }
    }

    static void p27EachRoundCounts() {
        promise(27, "FLOW from a STATE for so many rounds (0 .. 400) with q: 1");
        NaiveValley v = new NaiveValley();
        v.meetAll();
        v.slip[1] = 2;
        v.solve();
        CustomValley x = Due.of("slip 1 2;");
        for (int rounds : new int[] {1, 2, 3, 399, 400}) {
            x.flow(1, rounds, 1000);
            long[] parts = v.flow(1, rounds, 1000);
            long sum = 0;
            for (int s = 0; s < 16; s++) {
                due("parts(" + s + ") behind " + rounds, x.parts(s), parts[s]);
                sum += x.parts(s);
            }
            due("nothing is lost", sum, ALL);
        }
    }

    static void p27NoSuchState() {
        promise(27, "RANGE.");
        CustomValley x = busy();
        for (int s : NO_STATES) {
            refused(x, "flow(" + s + ", 1, 2)", () -> x.flow(s, 1, 2), RANGE);
        }
        CustomValley keeper = Due.of(KEEPER);
        due("flow(0, 1, 2): none of the states", keeper.flow(0, 1, 2), RANGE);
        due("flow(1, 1, 2)", keeper.flow(1, 1, 2), 1);
        due("flow(1024, 0, 2)", Due.of("people 10;").flow(1024, 0, 2), RANGE);
        due("flow(1023, 0, 2)", Due.of("people 10;").flow(1023, 0, 2), 1);
    }

    static void p27TooFewOrTooManyRounds() {
        promise(27, "RANGE.");
        CustomValley x = busy();
        for (int rounds : new int[] {LOW, -1, 401, HIGH}) {
            refused(x, "flow(0, " + rounds + ", 2)", () -> x.flow(0, rounds, 2), RANGE);
        }
        due("flow(2, -1, 2), nobody is free", Due.of(NOBODY).flow(2, -1, 2), RANGE);
        due("flow(2, 401, 2), nobody is free", Due.of(NOBODY).flow(2, 401, 2), RANGE);
    }

    static void p27QFromTwoTo1000() {
        term(27, "In a round with q (2 .. 1000)");
        CustomValley x = busy();
        for (int q : new int[] {LOW, -1, 0, 1, 1001, HIGH}) {
            refused(x, "flow(0, 1, " + q + ")", () -> x.flow(0, 1, q), RANGE);
            refused(x, "flow(0, 0, " + q + ")", () -> x.flow(0, 0, q), RANGE);
        }
        due("flow(0, 1, 2)", x.flow(0, 1, 2), 1);
        due("flow(0, 1, 1000)", x.flow(0, 1, 1000), 1);
        due("flow(2, 1, 1), nobody is free", Due.of(NOBODY).flow(2, 1, 1), RANGE);
    }

    // ---- promise 28

    static void p28AllInOneState() {
        term(28, "FLOW: 1000000000 parts in one STATE.");
        CustomValley x = Due.of("people 10;");
        x.flow(1023, 0, 2);
        due("parts(1023)", x.parts(1023), ALL);
        due("parts(0)", x.parts(0), 0);
        due("parts(1022)", x.parts(1022), 0);
    }

    static void p28EachFreePersonHasHerShare() {
        term(28, "of the parts m of each STATE each FREE person has m over how many are FREE (cut)");
        // 333333333 each, one is left over and stays; of these 166666666 slip, half of them to 1
        CustomValley x = Due.of("people 3;");
        x.flow(0, 1, 2);
        due("parts(1)", x.parts(1), 83333333);
        due("parts(2)", x.parts(2), 83333333);
        due("parts(4)", x.parts(4), 83333333);
        due("parts(0)", x.parts(0), ALL - 3 * 83333333);
        // of four people one is not free
        CustomValley keeper = Due.of("keeps 0 0;");
        keeper.flow(0, 1, 2);
        due("parts(2)", keeper.parts(2), 83333333);
        due("parts(8)", keeper.parts(8), 83333333);
        due("parts(1): no state", keeper.parts(1), NONE);
        due("parts(0): hers are nobody's", keeper.parts(0), ALL - 3 * 83333333);
        // one alone is free: she has all
        CustomValley one = Due.of("people 2;keeps 1 0;");
        one.flow(1, 1, 4);
        due("parts(0): she goes back", one.parts(0), 875000000);
        due("parts(1): half of the slips", one.parts(1), 125000000);
    }

    static void p28OfTheseXOverQSlip() {
        term(28, "of these x over q (cut) SLIP: each HABIT has an equal part of it (cut)");
        // 500000000 over 7 is 71428571, a third of it 23809523
        CustomValley x = Due.of("people 2;habits 3;");
        x.flow(0, 1, 7);
        for (int s : new int[] {1, 2, 3, 6}) {
            due("parts(" + s + ")", x.parts(s), 23809523);
        }
        due("parts(0)", x.parts(0), ALL - 4 * 23809523);
        due("parts(4)", x.parts(4), 0);
        // 500000000 over 999 is 500500, half of it 250250; over 1000 it is 500000
        CustomValley two = Due.of("people 2;");
        two.flow(0, 1, 999);
        due("parts(1) with 999", two.parts(1), 250250);
        two.flow(0, 1, 1000);
        due("parts(1) with 1000", two.parts(1), 250000);
    }

    static void p28OfTheRestEachAnswer() {
        term(28, "of the rest each ANSWER of hers has an equal part (cut).");
        // nothing pays: 500000000, of these 166666666 slip, 55555555 each; of 333333334 each third has 111111111
        CustomValley x = Due.of("people 2;habits 3;worth 0 0 0;worth 1 1 0;worth 2 2 0;");
        x.flow(0, 1, 3);
        for (int s : new int[] {1, 2, 3, 6}) {
            due("parts(" + s + ")", x.parts(s), 166666666);
        }
        due("parts(0)", x.parts(0), ALL - 4 * 166666666);
        // one answer has all of it: from (1 0 0 0) person 0 goes back
        CustomValley y = new CustomValley();
        y.flow(1, 1, 2);
        due("parts(0): 62500000 and 125000000", y.parts(0), 187500000);
    }

    static void p28HerMoveIsDoneAndTheCutsStay() {
        term(28, "With that part her MOVE is done; what the cuts leave over stays in the STATE.");
        CustomValley x = new CustomValley();
        x.flow(1, 1, 2);
        int[] parts = {187500000, 625000000, 0, 62500000, 0, 62500000, 0, 0, 0, 62500000, 0, 0, 0, 0, 0, 0};
        for (int s = 0; s < 16; s++) {
            due("parts(" + s + ")", x.parts(s), parts[s]);
        }
        // seven who are free: six parts can't be shared out
        CustomValley seven = Due.of("people 7;");
        seven.flow(0, 1, 2);
        due("parts(64)", seven.parts(64), 35714285);
        due("parts(0)", seven.parts(0), ALL - 7 * 35714285);
    }

    static void p28NoPartIsLost() {
        term(28, "With that part her MOVE is done; what the cuts leave over stays in the STATE.");
        // twelve states hold a single part then, less than there are who are free
        CustomValley x = Due.of("people 6;meets 0 3;stays;");
        x.flow(0, 17, 500);
        due("parts(56)", x.parts(56), 1);
        x.flow(0, 18, 500);
        long sum = 0;
        for (int s = 0; s < 64; s++) {
            due("parts(" + s + ") are not below 0", x.parts(s) >= 0 ? 1 : 0, 1);
            sum += x.parts(s);
        }
        due("all parts", sum, ALL);
    }

    static void p28NobodyFree() {
        term(28, "(Nobody FREE: all stays.)");
        CustomValley x = Due.of(NOBODY);
        due("flow(2, 400, 2)", x.flow(2, 400, 2), 1);
        due("parts(2)", x.parts(2), ALL);
        due("partsOf(0)", x.partsOf(0), ALL);
    }

    static void p28ByTheLatestThatToldOne() {
        promise(28, "The parts of a STATE by the latest flow() that told 1");
        CustomValley x = new CustomValley();
        x.flow(0, 3, 2);
        x.flow(5, 0, 2);
        due("parts(0): nothing of the one before", x.parts(0), 0);
        due("parts(5)", x.parts(5), ALL);
        x.flow(6, 0, 1);
        x.flow(16, 0, 2);
        x.flow(6, 401, 2);
        x.run(3, 1, 9, 2);
        due("parts(5) behind refused ones", x.parts(5), ALL);
        due("parts(6) behind refused ones", x.parts(6), 0);
    }

    static void p28NoneSuchOrAheadOfAny() {
        promise(28, "NONE: none such, or ahead of any.");
        CustomValley x = new CustomValley();
        due("parts(0) ahead of any", x.parts(0), NONE);
        x.flow(0, 1, 1);
        due("parts(0) behind a refused one alone", x.parts(0), NONE);
        x.flow(0, 1, 2);
        due("parts(15)", x.parts(15), 0);
        for (int s : NO_STATES) {
            due("parts(" + s + ")", x.parts(s), NONE);
        }
        CustomValley keeper = Due.of(KEEPER);
        keeper.flow(1, 1, 2);
        due("parts(0): none of the states", keeper.parts(0), NONE);
    }

    // ---- promise 29

    static void p29OfAllItsStates() {
        promise(29, "The parts of all STATES of REST k by it");
        CustomValley rings = Due.of("people 3;meets 0 1;");
        rings.flow(1, 5, 3);
        due("partsOf(0)", rings.partsOf(0), rings.parts(0) + rings.parts(4));
        due("partsOf(1)", rings.partsOf(1), rings.parts(3) + rings.parts(7));
        due("partsOf(0) is something", rings.partsOf(0) > 0 ? 1 : 0, 1);
        CustomValley all = Due.of("people 10;worth 0 0 0;worth 1 1 0;");
        all.flow(77, 20, 2);
        due("partsOf(0), all states", all.partsOf(0), ALL);
        CustomValley each = Due.of("people 10;worth 0 0 0;worth 1 1 0;stays;");
        each.flow(1023, 1, 2);
        due("partsOf(1023)", each.partsOf(1023), each.parts(1023));
    }

    static void p29NoneLikewise() {
        promise(29, "NONE likewise.");
        CustomValley x = new CustomValley();
        due("partsOf(0) ahead of any", x.partsOf(0), NONE);
        x.flow(0, 1, 1);
        due("partsOf(0) behind a refused one alone", x.partsOf(0), NONE);
        x.flow(0, 1, 2);
        due("partsOf(1)", x.partsOf(1), 0);
        for (int k : new int[] {LOW, -1, 2, 16, 1024, HIGH}) {
            due("partsOf(" + k + ")", x.partsOf(k), NONE);
        }
        CustomValley each = Due.of("people 10;worth 0 0 0;worth 1 1 0;stays;");
        each.flow(1023, 1, 2);
        due("partsOf(1024)", each.partsOf(1024), NONE);
    }

    // ---- promise 30

    /** A run from state 6 of the four, as it is gone through in the plainest form. */
    private static void runIs(CustomValley x, int seed, int steps, int q) {
        NaiveValley v = new NaiveValley();
        v.meetAll();
        v.solve();
        due("run(6, " + seed + ", " + steps + ", " + q + ")", x.run(6, seed, steps, q), v.run(6, seed, steps, q)[0]);
    }

    static void p30TheStateAtItsEnd() {
        promise(30, "A RUN from a STATE");
        promise(30, ": the STATE at its end");
        CustomValley x = new CustomValley();
        due("run(0, 1, 1, 2)", x.run(0, 1, 1, 2), 4);
        due("run(0, 1, 2, 2)", x.run(0, 1, 2, 2), 4);
        due("run(0, 1, 3, 2)", x.run(0, 1, 3, 2), 0);
        due("run(15, 1, 3, 2)", x.run(15, 1, 3, 2), 15);
    }

    static void p30SeedsFromNothingToTheGreatest() {
        promise(30, "by a seed (0 .. 2147483647)");
        CustomValley x = new CustomValley();
        for (int seed : new int[] {0, 1, 65535, 65536, HIGH - 1, HIGH}) {
            runIs(x, seed, 1, 2);
            runIs(x, seed, 20, 2);
            runIs(x, seed, 200, 3);
        }
    }

    static void p30StepsFromOneTo5000() {
        promise(30, "for so many steps (1 .. 5000)");
        CustomValley x = new CustomValley();
        for (int steps : new int[] {1, 2, 3, 4998, 4999, 5000}) {
            runIs(x, 7, steps, 2);
            due("all its moves", x.ran(10) + x.ran(11) + x.ran(12) + x.ran(13), steps);
        }
    }

    static void p30QFromTwoTo1000() {
        promise(30, "with q (2 .. 1000)");
        CustomValley x = new CustomValley();
        for (int q : new int[] {2, 3, 999, 1000}) {
            runIs(x, 5, 300, q);
            runIs(x, HIGH, 5000, q);
        }
    }

    static void p30EachStepDrawsThreeTimes() {
        term(30, "A RUN by a seed s: each step draws three times: s becomes (1103515245 times s and 12345) modulo "
                + "2147483648, the draw is s over 65536 (cut).");
        // by 1 the draws are 16838, 5758, 10113, 17515, 31051, 5627, 23010, 7419, 16212
        CustomValley ten = Due.of("people 10;");
        due("run(0, 1, 1, 2): person 8 slips to 1", ten.run(0, 1, 1, 2), 256);
        due("run(256, 1, 2, 2): person 5 answers 0", ten.run(288, 1, 2, 2), 256);
        due("ran(18)", ten.ran(18), 1);
        due("ran(15)", ten.ran(15), 1);
        // by 2147483647 the product is far above 31 bits: it becomes 1043980748, the draw is 15929
        long s = (1103515245L * 2147483647L + 12345L) % 2147483648L;
        due("the first s by 2147483647", s, 1043980748);
        ten.run(0, HIGH, 1, 1000);
        due("ran(10 + 15929 modulo 10)", ten.ran(19), 1);
        // by 0 it becomes 12345, the draw is 0
        ten.run(0, 0, 1, 1000);
        due("ran(10): the draw is 0", ten.ran(10), 1);
    }

    static void p30TheFirstDrawTellsWho() {
        term(30, "The first draw modulo how many are FREE tells the FREE person (by rising persons)");
        // 16838 modulo 3 is 2: the third who is free; modulo 2 it is 0
        CustomValley x = Due.of("keeps 1 0;");
        x.run(0, 1, 1, 2);
        due("ran(13): persons 0, 2 and 3 are free", x.ran(13), 1);
        CustomValley y = Due.of("keeps 0 0;keeps 1 0;");
        y.run(0, 1, 1, 2);
        due("ran(12): persons 2 and 3 are free", y.ran(12), 1);
        CustomValley z = Due.of("keeps 0 0;keeps 1 0;keeps 2 0;");
        z.run(0, 1, 50, 2);
        due("ran(13): person 3 alone is free", z.ran(13), 50);
    }

    static void p30TheSecondDrawTellsOfASlip() {
        term(30, "if the second modulo q is 0, the third modulo habits tells the HABIT");
        // 5758 is 2 times 2879: with q 2 and 1 * 5758 it slips, with 3 it doesn't; 10113 modulo 2 is 1, modulo 3 0
        CustomValley x = new CustomValley();
        due("run(0, 1, 1, 2)", x.run(0, 1, 1, 2), 4);
        due("run(0, 1, 1, 3)", x.run(0, 1, 1, 3), 0);
        CustomValley three = Due.of("habits 3;");
        // person 2 of (1 1 1 1) slips to 0
        due("run(40, 1, 1, 2)", three.run(40, 1, 1, 2), 40 - 9);
        CustomValley four = Due.of("habits 4;");
        // 10113 modulo 4 is 1
        due("run(0, 1, 1, 2)", four.run(0, 1, 1, 2), 16);
    }

    static void p30ElseTheThirdTellsOneOfHerAnswers() {
        term(30, "else the third modulo how many ANSWERS there are tells one of them (by rising HABITS).");
        // person 2 of three: (1 2 .): both are as good; 10113 modulo 2 is 1: the second, 2
        CustomValley x = Due.of("people 3;habits 3;");
        // 16838 modulo 3 is 2
        due("run(1 + 3 * 2, 1, 1, 3)", x.run(7, 1, 1, 3), 7 + 9 * 2);
        // all three are as good: 10113 modulo 3 is 0
        CustomValley none = Due.of("people 3;habits 3;worth 0 0 0;worth 1 1 0;worth 2 2 0;");
        due("run(26, 1, 1, 3)", none.run(26, 1, 1, 3), 8);
    }

    static void p30NoSuchState() {
        promise(30, "RANGE");
        CustomValley x = busy();
        for (int s : NO_STATES) {
            refused(x, "run(" + s + ", 1, 1, 2)", () -> x.run(s, 1, 1, 2), RANGE);
        }
        due("run(0, 1, 1, 2): none of the states", Due.of(KEEPER).run(0, 1, 1, 2), RANGE);
        due("run(1024, 1, 1, 2)", Due.of("people 10;").run(1024, 1, 1, 2), RANGE);
    }

    static void p30NoSuchSeed() {
        promise(30, "RANGE");
        CustomValley x = busy();
        for (int seed : new int[] {LOW, LOW + 1, -1}) {
            refused(x, "run(0, " + seed + ", 1, 2)", () -> x.run(0, seed, 1, 2), RANGE);
        }
        due("run(0, 0, 1, 2)", x.run(0, 0, 1, 2) >= 0 ? 1 : 0, 1);
        due("run(0, HIGH, 1, 2)", x.run(0, HIGH, 1, 2) >= 0 ? 1 : 0, 1);
    }

    static void p30NotSoManySteps() {
        promise(30, "RANGE");
        CustomValley x = busy();
        for (int steps : new int[] {LOW, -1, 0, 5001, HIGH}) {
            refused(x, "run(0, 1, " + steps + ", 2)", () -> x.run(0, 1, steps, 2), RANGE);
        }
        due("run(0, 1, 5000, 2)", x.run(0, 1, 5000, 2) >= 0 ? 1 : 0, 1);
    }

    static void p30NoSuchQ() {
        promise(30, "RANGE");
        CustomValley x = busy();
        for (int q : new int[] {LOW, -1, 0, 1, 1001, HIGH}) {
            refused(x, "run(0, 1, 1, " + q + ")", () -> x.run(0, 1, 1, q), RANGE);
        }
    }

    static void p30NobodyIsFree() {
        promise(30, "STATE: nobody is FREE.");
        CustomValley x = Due.of(NOBODY);
        refused(x, "run(2, 1, 1, 2)", () -> x.run(2, 1, 1, 2), STATE);
        due("ran(0)", x.ran(0), NONE);
        due("run(2, HIGH, 5000, 1000)", x.run(2, HIGH, 5000, 1000), STATE);
        due("run(0, 1, 1, 2): no state", x.run(0, 1, 1, 2), RANGE);
        due("run(2, 1, 0, 2): no such steps", x.run(2, 1, 0, 2), RANGE);
        due("run(2, 1, 1, 1): no such q", x.run(2, 1, 1, 1), RANGE);
        due("run(2, -1, 1, 2): no such seed", x.run(2, -1, 1, 2), RANGE);
        due("run(0, 1, 1, 2): one is free", Due.of("people 2;keeps 0 0;").run(0, 1, 1, 2) >= 0 ? 1 : 0, 1);
    }

    // ---- promise 31

    static void p31TheLatestAlone() {
        promise(31, "Of the latest run() that told a STATE");
        CustomValley x = Due.of("slip 1 3;");
        x.run(0, 1, 3, 2);
        x.run(0, 1, 1, 3);
        due("ran(0)", x.ran(0), 0);
        due("ran(1)", x.ran(1), 0);
        due("ran(2)", x.ran(2), 1);
        due("ran(12)", x.ran(12), 1);
        due("ran(13)", x.ran(13), 0);
    }

    static void p31TheirCost() {
        promise(31, "1: their cost");
        for (int cost = 1; cost <= 3; cost++) {
            CustomValley x = Due.of("slip 1 " + cost + ";");
            x.run(0, 1, 1, 2);
            due("ran(1) of one slip", x.ran(1), cost);
            x.run(0, 1, 1, 3);
            due("ran(1) of none", x.ran(1), 0);
        }
        CustomValley dear = Due.of("people 10;worth 0 0 0;worth 1 1 0;stays;slip 0 3;slip 1 3;");
        dear.run(0, 7, 5000, 2);
        due("ran(0) of the longest is something", dear.ran(0) > 1000 ? 1 : 0, 1);
        due("ran(1) of the longest: each costs 3", dear.ran(1), 3 * dear.ran(0));
    }

    static void p31StepsThatEndedInARest() {
        promise(31, "2: how many steps ended in a REST");
        CustomValley x = new CustomValley();
        x.run(0, 1, 1, 2);
        due("ran(2): it led out of one", x.ran(2), 0);
        x.run(0, 1, 3, 2);
        due("ran(2): the third step led back", x.ran(2), 1);
        x.run(0, 1, 1, 3);
        due("ran(2): it stayed in one", x.ran(2), 1);
        CustomValley all = Due.of("people 10;worth 0 0 0;worth 1 1 0;stays;");
        all.run(0, 7, 5000, 2);
        due("ran(2): each state is a rest", all.ran(2), 5000);
        CustomValley ring = Due.of("people 10;worth 0 0 0;worth 1 1 0;");
        ring.run(0, 7, 5000, 2);
        due("ran(2): each state is in the ring", ring.ran(2), 5000);
    }

    static void p31WhatIsASlip() {
        promise(31, "what 0: how many of its MOVES were SLIPS");
        CustomValley x = new CustomValley();
        due("run(15, 1, 1, 2): she slips to 1, her answer", x.run(15, 1, 1, 2), 15);
        due("ran(0)", x.ran(0), 0);
        due("run(4, 1, 1, 2): she slips to 1, her own, where she would answer 0", x.run(4, 1, 1, 2), 4);
        due("ran(0)", x.ran(0), 1);
    }

    static void p31MovesOfEach() {
        promise(31, "10 + p: how many MOVES were person p's.");
        CustomValley x = new CustomValley();
        x.run(0, 1, 3, 2);
        int[] moves = {0, 0, 2, 1};
        for (int p = 0; p < 4; p++) {
            due("ran(10 + " + p + ")", x.ran(10 + p), moves[p]);
        }
        CustomValley ten = Due.of("people 10;");
        ten.run(0, 7, 5000, 2);
        int sum = 0;
        for (int p = 0; p < 10; p++) {
            sum += ten.ran(10 + p);
        }
        due("all moves of the longest", sum, 5000);
        CustomValley keeper = Due.of(KEEPER);
        keeper.run(1, 1, 100, 2);
        due("ran(10): she keeps hers", keeper.ran(10), 0);
        due("all moves", keeper.ran(11) + keeper.ran(12) + keeper.ran(13), 100);
    }

    static void p31ARefusedRunLeavesIt() {
        promise(31, "Of the latest run() that told a STATE");
        CustomValley x = new CustomValley();
        x.run(0, 1, 3, 2);
        x.run(16, 1, 1, 2);
        x.run(0, -1, 1, 2);
        x.run(0, 1, 5001, 2);
        x.run(0, 1, 1, 1001);
        Due.put(x, "0111");
        x.judge(0);
        x.flow(0, 9, 2);
        due("ran(0)", x.ran(0), 1);
        due("ran(2)", x.ran(2), 1);
        due("ran(12)", x.ran(12), 2);
    }

    static void p31OthersAndAheadOfAny() {
        promise(31, "NONE for others, and ahead of any.");
        CustomValley x = new CustomValley();
        for (int what : new int[] {0, 1, 2, 10, 13}) {
            due("ran(" + what + ") ahead of any", x.ran(what), NONE);
        }
        x.run(0, 1, 0, 2);
        due("ran(0) behind a refused one alone", x.ran(0), NONE);
        x.run(0, 1, 1, 2);
        for (int what : new int[] {LOW, -1, 3, 4, 9, 14, 15, 19, 20, HIGH}) {
            due("ran(" + what + ")", x.ran(what), NONE);
        }
        CustomValley ten = Due.of("people 10;");
        ten.run(0, 1, 1, 2);
        due("ran(19) of ten", ten.ran(19), 0);
        due("ran(20) of ten", ten.ran(20), NONE);
    }

    // ---- promise 32

    private static int judge(CustomValley x, String row, int s) {
        Due.put(x, row);
        return x.judge(s);
    }

    static void p32HowManyAreWell() {
        promise(32, "THE TAPE is a row of MOVES, JUDGED from a STATE: how many are well from the first on");
        CustomValley x = new CustomValley();
        due("judge(0) of nothing", judge(x, "", 0), 0);
        due("judge(0) of one", judge(x, "01", 0), 1);
        due("judge(0) of two", judge(x, "0131", 0), 2);
        due("judge(0): the first is none", judge(x, "41", 0), 0);
        due("judge(0): the last is none", judge(x, "013141", 0), 2);
        due("judge(0): one in the midst is none", judge(x, "014131", 0), 1);
    }

    static void p32TheTapeIsTheRow() {
        term(32, "JUDGED: a row of MOVES on THE TAPE (bytes two by two: the person and 48, the HABIT and 48");
        CustomValley ten = Due.of("people 10;");
        due("judge(0): person 9", judge(ten, "91", 0), 1);
        due("judged(2)", ten.judged(2), 512);
        due("judge(0): person 10", judge(ten, ":1", 0), 0);
        due("judge(0): person -1", judge(ten, "/1", 0), 0);
        due("judge(0): habit 2", judge(ten, "02", 0), 0);
        due("judge(0): habit -1", judge(ten, "0/", 0), 0);
        CustomValley four = Due.of("people 5;habits 4;");
        due("judge(0): habit 3", judge(four, "43", 0), 1);
        due("judged(2)", four.judged(2), 768);
        due("judge(0): habit 4", judge(four, "44", 0), 0);
        due("judge(0): person 5", judge(four, "53", 0), 0);
    }

    static void p32SixtyMovesAtMost() {
        term(32, "at most 60 MOVES)");
        CustomValley x = Due.of("people 10;");
        StringBuilder row = new StringBuilder();
        for (int i = 0; i < 60; i++) {
            row.append((char) ('0' + i % 10)).append((char) ('1' - i / 10 % 2));
        }
        due("judge(0) of sixty", judge(x, row.toString(), 0), 60);
        due("judged(2): ten times to 1, to 0, and at last to 0", x.judged(2), 0);
        due("judge(0) of fifty", judge(x, row.substring(0, 100), 0), 50);
        due("judged(2): at last to 1", x.judged(2), 1023);
        due("judge(0) of 61", judge(x, row + "01", 0), NONE);
    }

    static void p32AnyOtherByteIsNoMove() {
        term(32, "the first that isn't one");
        CustomValley x = new CustomValley();
        for (int b = 0; b < 256; b++) {
            due("judge(0), person " + b, judge(x, (char) b + "0", 0), b >= 48 && b < 52 ? 1 : 0);
            due("judge(0), habit " + b, judge(x, "0" + (char) b, 0), b == 48 || b == 49 ? 1 : 0);
        }
        due("judge(1): she isn't free", judge(Due.of(KEEPER), "01", 1), 0);
        due("judge(1): the next is", judge(Due.of(KEEPER), "11", 1), 1);
        due("judge(2): nobody is free", judge(Due.of(NOBODY), "00", 2), 0);
    }

    static void p32NoSuchState() {
        promise(32, "RANGE: no such STATE");
        CustomValley x = busy();
        int judged = x.judged(2);
        for (int s : NO_STATES) {
            due("judge(" + s + ")", judge(x, "01", s), RANGE);
            due("judge(" + s + ") of an odd number", judge(x, "011", s), RANGE);
            due("judge(" + s + ") of nothing", judge(x, "", s), RANGE);
        }
        due("judged(2) is as it was", x.judged(2), judged);
        due("judge(0): none of the states", judge(Due.of(KEEPER), "11", 0), RANGE);
        due("judge(1024)", judge(Due.of("people 10;"), "01", 1024), RANGE);
    }

    static void p32AnOddNumber() {
        promise(32, "NONE: an odd number of bytes");
        CustomValley x = new CustomValley();
        judge(x, "01", 0);
        for (int n : new int[] {1, 3, 119, 121, 699}) {
            due("judge(0) of " + n + " bytes", judge(x, "0".repeat(n), 0), NONE);
            due("judged(2) is as it was", x.judged(2), 1);
        }
    }

    static void p32MoreThan120() {
        promise(32, ", or more than 120.");
        CustomValley x = new CustomValley();
        due("judge(0) of 118 bytes", judge(x, "00".repeat(59), 0), 59);
        due("judge(0) of 120 bytes", judge(x, "00".repeat(59) + "01", 0), 60);
        due("judged(2): the last one counts", x.judged(2), 1);
        for (int n : new int[] {61, 62, 350}) {
            due("judge(0) of " + 2 * n + " bytes", judge(x, "00".repeat(n), 0), NONE);
            due("judged(2) is as it was", x.judged(2), 1);
            due("judged(3) is as it was", x.judged(3), 1);
        }
    }

    // ---- promise 33

    private static void judgedIs(CustomValley x, int slips, int cost, int end, int all) {
        due("judged(0)", x.judged(0), slips);
        due("judged(1)", x.judged(1), cost);
        due("judged(2)", x.judged(2), end);
        due("judged(3)", x.judged(3), all);
    }

    static void p33TheLatestThatToldANumber() {
        promise(33, "Of the latest judge() that told a number");
        CustomValley x = new CustomValley();
        judge(x, "0111", 0);
        judge(x, "31", 7);
        judgedIs(x, 0, 0, 15, 1);
        judge(x, "0", 0);
        judge(x, "01", 16);
        judge(x, "00".repeat(61), 0);
        judgedIs(x, 0, 0, 15, 1);
        judge(x, "41", 2);
        judgedIs(x, 0, 0, 2, 0);
    }

    static void p33SlipsAndCost() {
        promise(33, "what 0: SLIPS, 1: their cost");
        CustomValley x = Due.of("slip 1 3;slip 0 2;");
        judge(x, "0111", 0);
        judgedIs(x, 2, 6, 3, 1);
        judge(x, "00", 7);
        judgedIs(x, 1, 2, 6, 1);
        judge(x, "31", 7);
        judgedIs(x, 0, 0, 15, 1);
        judge(x, "01".repeat(60), 0);
        judgedIs(x, 60, 180, 1, 1);
        judge(x, "", 5);
        judgedIs(x, 0, 0, 5, 1);
    }

    static void p33HerOwnHabitMayBeASlip() {
        term(33, "A SLIP: any other one; it costs what is told.");
        CustomValley x = Due.of("slip 1 3;");
        judge(x, "01", 1);
        judgedIs(x, 1, 3, 1, 1);
        judge(x, "01", 3);
        judgedIs(x, 1, 3, 3, 1);
        judge(x, "01", 7);
        judgedIs(x, 0, 0, 7, 1);
    }

    static void p33TheStateBehindThoseThatAreWell() {
        term(33, "SLIPS, their cost, the STATE at its end.");
        promise(33, "2: the STATE at its end (behind those that are well)");
        CustomValley x = new CustomValley();
        judge(x, "0111412131", 0);
        judgedIs(x, 2, 2, 3, 0);
        judge(x, "41", 9);
        judgedIs(x, 0, 0, 9, 0);
    }

    static void p33IfAllAreWell() {
        promise(33, "3: 1 if all are well, else 0.");
        CustomValley x = new CustomValley();
        judge(x, "", 0);
        due("judged(3): there is none that isn't", x.judged(3), 1);
        judge(x, "0142", 0);
        due("judged(3): the last isn't", x.judged(3), 0);
        judge(x, "0111", 0);
        due("judged(3)", x.judged(3), 1);
    }

    static void p33OthersAndAheadOfAny() {
        promise(33, "NONE for others, and ahead of any.");
        CustomValley x = new CustomValley();
        for (int what = 0; what < 4; what++) {
            due("judged(" + what + ") ahead of any", x.judged(what), NONE);
        }
        judge(x, "0", 0);
        judge(x, "01", 16);
        due("judged(3) behind refused ones alone", x.judged(3), NONE);
        judge(x, "01", 0);
        for (int what : new int[] {LOW, -1, 4, 5, 10, HIGH}) {
            due("judged(" + what + ")", x.judged(what), NONE);
        }
        x.run(0, 1, 9, 2);
        due("judged(2) behind a run", x.judged(2), 1);
    }
}
