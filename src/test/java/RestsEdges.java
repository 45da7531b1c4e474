/** Promises 11 to 17: rests, who comes to them, and the fewest slips. */
final class RestsEdges extends Edge {
    /** Persons 0 and 1 meet, 2 meets nobody: two rings, {0, 4} and {3, 7}. */
    private static final String RINGS = "people 3;meets 0 1;";
    /** Each wants what the other in the line doesn't have: rests 2 and 5. */
    private static final String UNLIKE =
            "people 3;meets 0 1 1 2;worth 0 0 0;worth 0 1 1;worth 1 0 1;worth 1 1 0;stays;";
    private static final String ALL_REST = "people 10;worth 0 0 0;worth 1 1 0;stays;";
    private static final String ALL_RING = "people 10;worth 0 0 0;worth 1 1 0;";
    private static final String NOBODY = "people 2;keeps 0 0;keeps 1 1;";
    /** Person 0 keeps 1: the odd ones are states. */
    private static final String KEEPER = "keeps 0 1;";

    private RestsEdges() {
    }

    private static void wayIs(CustomValley x, int... states) {
        due("way(-1)", x.way(-1), states.length - 1);
        for (int i = 0; i < states.length; i++) {
            due("way(" + i + ")", x.way(i), states[i]);
        }
        due("way(" + states.length + ")", x.way(states.length), NONE);
    }

    // ---- promise 11

    static void p11HowManyThereAre() {
        promise(11, "How many RESTS there are.");
        due("rests()", new CustomValley().rests(), 2);
        due("rests(), the fewest", Due.of(NOBODY).rests(), 1);
        due("rests(), one ring of all states", Due.of(ALL_RING).rests(), 1);
        due("rests(), each state is one", Due.of(ALL_REST).rests(), 1024);
        due("rests(), each state is one", Due.of("people 5;habits 4;answer most;meets 0 1;stays;").rests(), 256);
    }

    static void p11TheLeastSetsThatNoMoveLeaves() {
        term(11, "RESTS: the least sets of STATES that no MOVE without slip leaves");
        CustomValley x = Due.of(RINGS);
        due("rests(), two rings", x.rests(), 2);
        due("rest(0, 1)", x.rest(0, 1), 2);
        due("rest(1, 1)", x.rest(1, 1), 2);
        CustomValley stay = Due.of(RINGS + "stays;");
        due("rests(), states alone", stay.rests(), 4);
        due("rest(0, 1)", stay.rest(0, 1), 1);
        due("rests(), nothing pays: a ring", Due.of(ALL_RING).rest(0, 1), 1024);
    }

    static void p11ARingThatGoesOneWay() {
        term(11, "(a STATE alone, or a RING of several)");
        // 1 beats 0, 2 beats 1, 0 beats 2: each in turn takes what beats the other's
        CustomValley x = Due.of("people 2;habits 3;worth 0 0 0;worth 1 1 0;worth 2 2 0;"
                + "worth 1 0 1;worth 2 1 1;worth 0 2 1;");
        due("rests()", x.rests(), 1);
        due("rest(0, 1)", x.rest(0, 1), 6);
        due("rest(0, 2)", x.rest(0, 2), 9);
        int[] unlike = {1, 2, 3, 5, 6, 7};
        for (int i = 0; i < 6; i++) {
            due("rest(0, 10 + " + i + ")", x.rest(0, 10 + i), unlike[i]);
            due("restOf(" + unlike[i] + ")", x.restOf(unlike[i]), 0);
        }
        due("restOf(0)", x.restOf(0), NONE);
    }

    static void p11NumberedByTheirLeastStates() {
        term(11, "numbered from 0 by their least STATES.");
        CustomValley x = Due.of(UNLIKE);
        due("rests()", x.rests(), 2);
        due("restOf(2)", x.restOf(2), 0);
        due("restOf(5)", x.restOf(5), 1);
        CustomValley all = Due.of(ALL_REST);
        for (int s : new int[] {0, 1, 2, 511, 512, 1022, 1023}) {
            due("restOf(" + s + ")", all.restOf(s), s);
        }
        CustomValley rings = Due.of(RINGS);
        due("rest(0, 0)", rings.rest(0, 0), 0);
        due("rest(1, 0)", rings.rest(1, 0), 3);
    }

    // ---- promise 12

    static void p12ItsLeastState() {
        promise(12, "Of REST k, what 0: its least STATE");
        CustomValley rings = Due.of(RINGS);
        due("rest(0, 0)", rings.rest(0, 0), 0);
        due("rest(1, 0)", rings.rest(1, 0), 3);
        due("rest(1023, 0)", Due.of(ALL_REST).rest(1023, 0), 1023);
        due("rest(0, 0), nobody is free", Due.of(NOBODY).rest(0, 0), 2);
    }

    static void p12HowManyStatesItHas() {
        promise(12, "1: how many STATES it has");
        due("rest(0, 1), a state alone", new CustomValley().rest(0, 1), 1);
        due("rest(1, 1), a ring", Due.of(RINGS).rest(1, 1), 2);
        due("rest(0, 1), all states", Due.of(ALL_RING).rest(0, 1), 1024);
        due("rest(1023, 1), each state", Due.of(ALL_REST).rest(1023, 1), 1);
    }

    static void p12HowManyItsBasinHas() {
        promise(12, "2: how many its BASIN has");
        due("rest(0, 2), a ring", Due.of(RINGS).rest(0, 2), 2);
        due("rest(1023, 2), itself", Due.of(ALL_REST).rest(1023, 2), 1);
        due("rest(0, 2), all states", Due.of(ALL_RING).rest(0, 2), 1024);
    }

    static void p12BasinAreThoseThatComeToItAlone() {
        term(12, "BASIN of a REST: the STATES that come to it alone.");
        CustomValley x = new CustomValley();
        // 0 and the four with one 1; the six with two come to both
        due("rest(0, 2)", x.rest(0, 2), 5);
        due("rest(1, 2)", x.rest(1, 2), 5);
        due("rest(0, 2), one rest", Due.of("people 3;keeps 0 0;keeps 1 0;").rest(0, 2), 2);
        CustomValley unlike = Due.of(UNLIKE);
        int sum = 0;
        for (int s = 0; s < 8; s++) {
            sum += unlike.comes(s, 0) == 1 && unlike.comes(s, 1) == 0 ? 1 : 0;
        }
        due("rest(0, 2)", unlike.rest(0, 2), sum);
        // (1 1 0) and (0 1 1) come to (0 1 0) alone
        due("rest(0, 2)", unlike.rest(0, 2), 3);
        // if 0 gets more among the unlike, from (1 1 0) person 1 may go to 0 first, and all comes otherwise
        CustomValley more = Due.of("people 3;meets 0 1 1 2;worth 0 0 0;worth 0 1 2;worth 1 0 1;worth 1 1 0;stays;");
        due("rest(0, 0)", more.rest(0, 0), 2);
        due("rest(0, 2)", more.rest(0, 2), 1);
        due("rest(1, 0)", more.rest(1, 0), 5);
        due("rest(1, 2)", more.rest(1, 2), 3);
    }

    static void p12BasinWithStatesThatComeToOneAnother() {
        term(12, "BASIN of a REST: the STATES that come to it alone.");
        // (1 1 1) leads to those with one 0 and these back to it, but from these all goes on to (0 0 0)
        CustomValley x = Due.of("people 3;habits 3;worth 0 1 1;");
        due("rests()", x.rests(), 2);
        due("restOf(13)", x.restOf(13), NONE);
        due("comes(13, 0)", x.comes(13, 0), 1);
        due("comes(13, 1)", x.comes(13, 1), 0);
        due("rest(0, 2): all without a 2", x.rest(0, 2), 8);
        due("rest(0, 2), one rest", Due.of("people 3;habits 3;keeps 1 1;").rest(0, 2), 9);
    }

    static void p12ItsStatesRising() {
        promise(12, "10 + i: its STATE i, rising.");
        CustomValley rings = Due.of(RINGS);
        due("rest(0, 10)", rings.rest(0, 10), 0);
        due("rest(0, 11)", rings.rest(0, 11), 4);
        due("rest(1, 10)", rings.rest(1, 10), 3);
        due("rest(1, 11)", rings.rest(1, 11), 7);
        CustomValley ring = Due.of(ALL_RING);
        for (int i = 0; i < 400; i++) {
            int s = i < 200 ? i : 1023 - (399 - i);
            due("rest(0, 10 + " + s + ")", ring.rest(0, 10 + s), s);
        }
    }

    static void p12NoneSuch() {
        promise(12, "NONE when there is none such.");
        CustomValley rings = Due.of(RINGS);
        for (int what : new int[] {LOW, -1, 3, 4, 9, 12, 13, 1033, HIGH}) {
            due("rest(0, " + what + ")", rings.rest(0, what), NONE);
            due("rest(1, " + what + ")", rings.rest(1, what), NONE);
        }
        for (int k : new int[] {LOW, -1, 2, 3, 1024, HIGH}) {
            for (int what : new int[] {0, 1, 2, 10, 11}) {
                due("rest(" + k + ", " + what + ")", rings.rest(k, what), NONE);
            }
        }
        CustomValley all = Due.of(ALL_REST);
        due("rest(1024, 0)", all.rest(1024, 0), NONE);
        due("rest(1023, 11)", all.rest(1023, 11), NONE);
        due("rest(0, 10 + 1024)", Due.of(ALL_RING).rest(0, 1034), NONE);
    }

    // ---- promise 13

    static void p13TheRestInWhichAStateIs() {
        promise(13, "The REST in which a STATE is");
        CustomValley x = new CustomValley();
        due("restOf(0)", x.restOf(0), 0);
        due("restOf(15)", x.restOf(15), 1);
        CustomValley rings = Due.of(RINGS);
        due("restOf(4)", rings.restOf(4), 0);
        due("restOf(7)", rings.restOf(7), 1);
        due("restOf(1023)", Due.of(ALL_REST).restOf(1023), 1023);
        due("restOf(1023)", Due.of(ALL_RING).restOf(1023), 0);
        due("restOf(2), nobody is free", Due.of(NOBODY).restOf(2), 0);
    }

    static void p13InNone() {
        promise(13, "NONE: in none");
        CustomValley x = new CustomValley();
        for (int s = 1; s < 15; s++) {
            due("restOf(" + s + ")", x.restOf(s), NONE);
        }
        CustomValley rings = Due.of(RINGS);
        for (int s : new int[] {1, 2, 5, 6}) {
            due("restOf(" + s + ")", rings.restOf(s), NONE);
        }
    }

    static void p13NoSuchState() {
        promise(13, "RANGE.");
        CustomValley x = new CustomValley();
        for (int s : new int[] {LOW, -1, 16, 17, 1024, HIGH}) {
            due("restOf(" + s + ")", x.restOf(s), RANGE);
        }
        due("restOf(14): none of the states", Due.of(KEEPER).restOf(14), RANGE);
        due("restOf(1024)", Due.of(ALL_REST).restOf(1024), RANGE);
    }

    // ---- promise 14

    static void p14OneIfItComes() {
        promise(14, "1 if a STATE comes to REST k, else 0");
        CustomValley x = new CustomValley();
        for (int s = 0; s < 16; s++) {
            int ones = Integer.bitCount(s);
            due("comes(" + s + ", 0)", x.comes(s, 0), ones <= 2 ? 1 : 0);
            due("comes(" + s + ", 1)", x.comes(s, 1), ones >= 2 ? 1 : 0);
        }
    }

    static void p14WithoutSlips() {
        term(14, "A STATE COMES to the RESTS that MOVES without slips can lead it to.");
        CustomValley rings = Due.of(RINGS);
        int[] bits = {1, 3, 3, 2, 1, 3, 3, 2};
        for (int s = 0; s < 8; s++) {
            due("comes(" + s + ", 0)", rings.comes(s, 0), bits[s] & 1);
            due("comes(" + s + ", 1)", rings.comes(s, 1), bits[s] >> 1);
        }
        CustomValley all = Due.of(ALL_REST);
        due("comes(1023, 1023): it is there", all.comes(1023, 1023), 1);
        due("comes(1023, 1022)", all.comes(1023, 1022), 0);
    }

    static void p14NoSuchStateOrRest() {
        promise(14, "RANGE.");
        CustomValley x = new CustomValley();
        for (int s : new int[] {LOW, -1, 16, 1024, HIGH}) {
            due("comes(" + s + ", 0)", x.comes(s, 0), RANGE);
        }
        for (int k : new int[] {LOW, -1, 2, 16, HIGH}) {
            due("comes(0, " + k + ")", x.comes(0, k), RANGE);
        }
        due("comes(0, 0): none of the states", Due.of(KEEPER).comes(0, 0), RANGE);
        due("comes(0, 1024)", Due.of(ALL_REST).comes(0, 1024), RANGE);
        due("comes(1024, 0)", Due.of(ALL_REST).comes(1024, 0), RANGE);
    }

    // ---- promise 15

    static void p15FromAStateToAState() {
        promise(15, "FEWEST from a STATE to a STATE");
        CustomValley x = new CustomValley();
        due("fewest(0, 0): from one to itself", x.fewest(0, 0), 0);
        due("fewest(5, 5): from one to itself", x.fewest(5, 5), 0);
        due("fewest(0, 1)", x.fewest(0, 1), 1);
        due("fewest(1, 0)", x.fewest(1, 0), 0);
        due("fewest(0, 15)", x.fewest(0, 15), 2);
        due("fewest(3, 15)", x.fewest(3, 15), 0);
        due("fewest(2, 2), nobody is free", Due.of(NOBODY).fewest(2, 2), 0);
    }

    static void p15TheLeastCost() {
        term(15, "FEWEST from a STATE to a STATE: the least cost of SLIPS on a row of MOVES.");
        CustomValley dear = Due.of(ALL_REST + "slip 0 3;slip 1 3;");
        due("fewest(0, 1023), the greatest there is", dear.fewest(0, 1023), 30);
        due("fewest(1023, 0), the greatest there is", dear.fewest(1023, 0), 30);
        due("fewest(0, 511)", dear.fewest(0, 511), 27);
        // a slip to 1 and back to 2 would be dearer than one straight to 2
        CustomValley three = Due.of("people 2;habits 3;slip 1 1;slip 2 3;");
        due("fewest(0, 8)", three.fewest(0, 8), 3);
        due("fewest(0, 4)", three.fewest(0, 4), 1);
    }

    static void p15ASlipCostsWhatIsTold() {
        term(15, "A SLIP: any other one; it costs what is told.");
        for (int cost = 1; cost <= 3; cost++) {
            CustomValley x = Due.of("slip 1 " + cost + ";");
            due("fewest(0, 1), a slip to 1", x.fewest(0, 1), cost);
            due("fewest(0, 15), two slips to 1", x.fewest(0, 15), 2 * cost);
            due("fewest(15, 0), two slips to 0", x.fewest(15, 0), 2);
        }
    }

    static void p15WithoutSlipItCostsNothing() {
        term(15, "Without slip: one of her ANSWERS.");
        CustomValley x = Due.of("slip 0 3;slip 1 3;");
        due("fewest(3, 7)", x.fewest(3, 7), 0);
        due("fewest(3, 1)", x.fewest(3, 1), 0);
        due("fewest(7, 15)", x.fewest(7, 15), 0);
        due("fewest(7, 3)", x.fewest(7, 3), 3);
    }

    static void p15ThereIsAlwaysARow() {
        promise(15, "NONE: there is no row of MOVES");
        // those who are free can slip to any habit, so between states there is always one
        CustomValley x = Due.of("people 3;habits 3;keeps 1 2;stays;");
        for (int s = 6; s < 27; s += s % 9 == 8 ? 7 : 1) {
            for (int t = 6; t < 27; t += t % 9 == 8 ? 7 : 1) {
                due("fewest(" + s + ", " + t + ") is a cost", x.fewest(s, t) >= 0 ? 1 : 0, 1);
            }
        }
    }

    static void p15NoSuchState() {
        promise(15, "RANGE.");
        CustomValley x = new CustomValley();
        for (int s : new int[] {LOW, -1, 16, 1024, HIGH}) {
            due("fewest(" + s + ", 0)", x.fewest(s, 0), RANGE);
            due("fewest(0, " + s + ")", x.fewest(0, s), RANGE);
            due("fewest(" + s + ", " + s + ")", x.fewest(s, s), RANGE);
        }
        CustomValley keeper = Due.of(KEEPER);
        due("fewest(0, 1): none of the states", keeper.fewest(0, 1), RANGE);
        due("fewest(1, 0): none of the states", keeper.fewest(1, 0), RANGE);
        due("fewest(0, 1024)", Due.of("people 10;").fewest(0, 1024), RANGE);
        due("fewest(1024, 0)", Due.of("people 10;").fewest(1024, 0), RANGE);
    }

    // ---- promise 16

    static void p16TheStatesOfTheWay() {
        promise(16, "STATE i of THE WAY of the latest fewest() that told a cost (0: the one from which it goes)");
        CustomValley x = new CustomValley();
        x.fewest(0, 15);
        wayIs(x, 0, 1, 3, 7, 15);
        x.fewest(15, 0);
        wayIs(x, 15, 7, 3, 1, 0);
        x.fewest(7, 7);
        wayIs(x, 7);
    }

    static void p16ARefusedFewestLeavesTheWay() {
        promise(16, "STATE i of THE WAY of the latest fewest() that told a cost (0: the one from which it goes)");
        CustomValley x = busy();
        refused(x, "fewest(16, 0)", () -> x.fewest(16, 0), RANGE);
        refused(x, "fewest(0, -1)", () -> x.fewest(0, -1), RANGE);
        wayIs(x, 0, 1, 3, 7, 15);
    }

    static void p16OtherCallsLeaveTheWay() {
        promise(16, "STATE i of THE WAY of the latest fewest() that told a cost (0: the one from which it goes)");
        CustomValley x = new CustomValley();
        x.fewest(0, 15);
        x.see(0, 0, 15);
        x.see(0, 1, 0);
        x.explained(0, 0);
        x.explained(0, 1);
        x.likeliest(0);
        x.between(1, 0);
        x.comes(3, 1);
        x.tree(0);
        x.winners();
        x.radius(1);
        x.coradius(1);
        x.shortly();
        x.carried(1, 0);
        x.bound(1);
        x.gift(1);
        x.flow(3, 9, 2);
        x.run(3, 1, 9, 2);
        wayIs(x, 0, 1, 3, 7, 15);
    }

    static void p16HowManyMoves() {
        promise(16, "for i = -1 how many MOVES.");
        CustomValley x = new CustomValley();
        x.fewest(3, 3);
        due("way(-1), from one to itself", x.way(-1), 0);
        x.fewest(0, 8);
        due("way(-1)", x.way(-1), 1);
        CustomValley six = Due.of("people 6;meets 0 5 1 5 2 5 3 4 4 5;");
        due("fewest(60, 51)", six.fewest(60, 51), 1);
        due("way(-1), more than there are people", six.way(-1), 8);
        wayIs(six, 60, 28, 12, 4, 0, 32, 33, 35, 51);
    }

    static void p16NoneSuch() {
        promise(16, "NONE when there is none such.");
        CustomValley x = new CustomValley();
        for (int i : new int[] {LOW, -2, -1, 0, 1, HIGH}) {
            due("way(" + i + ") ahead of any", x.way(i), NONE);
        }
        x.fewest(16, 0);
        due("way(-1) behind a refused one alone", x.way(-1), NONE);
        due("way(0) behind a refused one alone", x.way(0), NONE);
        x.fewest(0, 15);
        for (int i : new int[] {LOW, -3, -2, 5, 6, 1023, 1024, HIGH}) {
            due("way(" + i + ")", x.way(i), NONE);
        }
        x.fewest(0, 1);
        due("way(2): the one before was longer", x.way(2), NONE);
    }

    static void p16TheLeastCostThenTheFewestMoves() {
        term(16, "THE WAY: of those rows with the least cost one with the fewest MOVES");
        // straight from (2 2) to (1 1) are two slips; the second goes by itself behind the first
        CustomValley x = Due.of("people 2;habits 3;slip 1 2;");
        due("fewest(8, 4)", x.fewest(8, 4), 2);
        wayIs(x, 8, 5, 4);
        // dear and short against cheap and long
        CustomValley w = Due.of("people 5;meets 1 0 2 1 3 0 3 1 3 2 4 0 4 1 4 2 4 3;answer most;");
        due("fewest(28, 10)", w.fewest(28, 10), 1);
        wayIs(w, 28, 12, 8, 10);
    }

    static void p16TheLeastRowOfStates() {
        term(16, "of these the least row of STATES come through.");
        CustomValley dearest = Due.of(ALL_REST + "slip 0 3;slip 1 3;");
        dearest.fewest(0, 1023);
        wayIs(dearest, 0, 1, 3, 7, 15, 31, 63, 127, 255, 511, 1023);
        dearest.fewest(1023, 0);
        wayIs(dearest, 1023, 511, 255, 127, 63, 31, 15, 7, 3, 1, 0);
        dearest.fewest(5, 10);
        wayIs(dearest, 5, 1, 0, 2, 10);
    }

    // ---- promise 17

    static void p17FromARestToARest() {
        promise(17, "FEWEST from a REST to a REST");
        CustomValley x = Due.of("slip 1 3;");
        due("between(0, 1)", x.between(0, 1), 6);
        due("between(1, 0)", x.between(1, 0), 2);
        CustomValley dearest = Due.of(ALL_REST + "slip 0 3;slip 1 3;");
        due("between(0, 1023)", dearest.between(0, 1023), 30);
        due("between(1023, 0)", dearest.between(1023, 0), 30);
    }

    static void p17FromAnyOfItsStatesToAny() {
        term(17, "FEWEST from a REST to a REST: from any of its STATES to any.");
        CustomValley rings = Due.of(RINGS);
        due("between(0, 1) of rings", rings.between(0, 1), 1);
        due("between(1, 0) of rings", rings.between(1, 0), 1);
        CustomValley unlike = Due.of(UNLIKE);
        int least = 99;
        for (int i = 0; i < unlike.rest(0, 1); i++) {
            for (int j = 0; j < unlike.rest(1, 1); j++) {
                least = Math.min(least, unlike.fewest(unlike.rest(0, 10 + i), unlike.rest(1, 10 + j)));
            }
        }
        due("between(0, 1)", unlike.between(0, 1), least);
    }

    static void p17NoSuchRest() {
        promise(17, "RANGE.");
        CustomValley x = new CustomValley();
        for (int k : new int[] {LOW, -1, 2, 16, HIGH}) {
            due("between(" + k + ", 0)", x.between(k, 0), RANGE);
            due("between(0, " + k + ")", x.between(0, k), RANGE);
            due("between(" + k + ", " + k + ")", x.between(k, k), RANGE);
        }
        CustomValley all = Due.of(ALL_REST);
        due("between(1023, 1024)", all.between(1023, 1024), RANGE);
        due("between(1024, 1023)", all.between(1024, 1023), RANGE);
    }

    static void p17FromOneToItself() {
        promise(17, "(0 from one to itself.)");
        CustomValley rings = Due.of(RINGS);
        due("between(0, 0)", rings.between(0, 0), 0);
        due("between(1, 1)", rings.between(1, 1), 0);
        due("between(1023, 1023)", Due.of(ALL_REST).between(1023, 1023), 0);
        due("between(0, 0), nobody is free", Due.of(NOBODY).between(0, 0), 0);
    }
}
