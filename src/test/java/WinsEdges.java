/** Promises 18 to 26: trees, winners, reasons, and what makes a custom win. */
final class WinsEdges extends Edge {
    /** Three customs, each one slip away from each: rests 0, 4 and 8. */
    private static final String THREE = "people 2;habits 3;";
    private static final String RINGS = "people 3;meets 0 1;";
    private static final String ONE = "people 2;keeps 0 0;";
    private static final String NOBODY = "people 2;keeps 0 0;keeps 1 1;";
    private static final String TWELVE = "people 6;meets 0 1 1 4 2 4 2 5;stays;";
    private static final String TWELVE_ONE_WINS = "people 6;answer copy;stays;keeps 1 0;";
    private static final String THIRTEEN = "people 5;worth 0 0 0;meets 0 1 0 4 1 2 2 4 3 4;answer copy;stays;";
    private static final String SIXTEEN = "people 5;meets 0 1;stays;";
    private static final int[] NO_RESTS = {LOW, -1, 3, 12, 1024, HIGH};

    private WinsEdges() {
    }

    // ---- promise 18

    static void p18ItsSum() {
        promise(18, "TREE of REST k: its sum");
        CustomValley x = Due.of("people 2;habits 3;slip 1 2;slip 2 3;");
        int[] sums = {2, 3, 4};
        for (int k = 0; k < 3; k++) {
            due("tree(" + k + ")", x.tree(k), sums[k]);
        }
        due("tree(0) of the one rest", Due.of(ONE).tree(0), 0);
        due("tree(0), nobody is free", Due.of(NOBODY).tree(0), 0);
    }

    static void p18TheLeastSumOfAllTrees() {
        term(18, "TREE of a REST (the root): each other REST has one to which it goes on");
        term(18, ", so that all come to the root: the least sum of FEWEST");
        // straight to the root costs 3 from each; through a neighbour less
        CustomValley x = Due.of("people 4;meets 0 1;stays;slip 1 3;");
        int n = x.rests();
        due("rests()", n, 8);
        for (int k = 0; k < n; k++) {
            int straight = 0;
            int sum = 0;
            due("tree(" + k + ")", x.tree(k), 7 + 2 * Integer.bitCount(k));
            for (int a = 0; a < n; a++) {
                straight += x.between(a, k);
                sum += a == k ? 0 : x.between(a, x.treeTo(a));
            }
            due("the sum of its steps", sum, 7 + 2 * Integer.bitCount(k));
            due("straight would be more", straight > sum ? 1 : 0, 1);
        }
    }

    static void p18NoSuchRest() {
        promise(18, "RANGE");
        CustomValley x = Due.of(THREE);
        for (int k : NO_RESTS) {
            due("tree(" + k + ")", x.tree(k), RANGE);
        }
        CustomValley twelve = Due.of(TWELVE);
        due("tree(11) of twelve", twelve.tree(11), 11);
        due("tree(12) of twelve", twelve.tree(12), RANGE);
        due("tree(13) of thirteen", Due.of(THIRTEEN).tree(13), RANGE);
        due("tree(-1) of thirteen", Due.of(THIRTEEN).tree(-1), RANGE);
    }

    static void p18MoreThanTwelve() {
        promise(18, "FULL: there are more than 12 RESTS.");
        CustomValley x = Due.of(THIRTEEN);
        due("rests()", x.rests(), 13);
        due("tree(0) of thirteen", x.tree(0), FULL);
        due("tree(12) of thirteen", x.tree(12), FULL);
        due("treeTo(0) behind it", x.treeTo(0), NONE);
        due("tree(0) of 1024", Due.of("people 10;worth 0 0 0;worth 1 1 0;stays;").tree(0), FULL);
    }

    static void p18TwelveAreNotTooMany() {
        term(18, "It is asked for at most 12 RESTS.");
        CustomValley x = Due.of(TWELVE);
        due("rests()", x.rests(), 12);
        for (int k = 0; k < 12; k++) {
            due("tree(" + k + ") of twelve", x.tree(k), 11);
        }
    }

    // ---- promise 19

    private static void treeIs(CustomValley x, int... to) {
        for (int i = 0; i < to.length; i++) {
            due("treeTo(" + i + ")", x.treeTo(i), to[i]);
        }
        due("treeTo(" + to.length + ")", x.treeTo(to.length), NONE);
    }

    static void p19ToWhichItGoesOn() {
        promise(19, "To which REST REST i goes on in the latest tree() that told a sum");
        CustomValley x = Due.of(THREE);
        x.tree(0);
        treeIs(x, NONE, 0, 0);
        x.tree(2);
        treeIs(x, 1, 2, NONE);
        x.tree(1);
        treeIs(x, 1, NONE, 0);
    }

    static void p19ARefusedTreeLeavesIt() {
        promise(19, "To which REST REST i goes on in the latest tree() that told a sum");
        CustomValley x = busy();
        treeIs(x, 1, NONE);
        for (int k : new int[] {LOW, -1, 2, HIGH}) {
            refused(x, "tree(" + k + ")", () -> x.tree(k), RANGE);
        }
    }

    static void p19OtherCallsLeaveIt() {
        promise(19, "To which REST REST i goes on in the latest tree() that told a sum");
        CustomValley x = Due.of(THREE);
        x.tree(1);
        x.winners();
        x.bound(0);
        x.gift(2);
        x.shortly();
        x.between(0, 2);
        x.coradius(2);
        treeIs(x, 1, NONE, 0);
    }

    static void p19TheRootOrNoneSuch() {
        promise(19, "NONE: the root, or none such.");
        CustomValley x = Due.of(THREE);
        for (int i = -1; i < 4; i++) {
            due("treeTo(" + i + ") ahead of any", x.treeTo(i), NONE);
        }
        for (int k = 0; k < 3; k++) {
            x.tree(k);
            due("treeTo(" + k + "), the root", x.treeTo(k), NONE);
            for (int i : NO_RESTS) {
                due("treeTo(" + i + ")", x.treeTo(i), NONE);
            }
        }
        CustomValley twelve = Due.of(TWELVE);
        twelve.tree(0);
        due("treeTo(11) of twelve is a rest", twelve.treeTo(11) >= 0 ? 1 : 0, 1);
        due("treeTo(12) of twelve", twelve.treeTo(12), NONE);
        CustomValley one = Due.of(ONE);
        one.tree(0);
        due("treeTo(0) of one", one.treeTo(0), NONE);
    }

    static void p19TheLeastRow() {
        term(19, "of trees with it the least row (by rising RESTS, to which each goes on).");
        CustomValley x = Due.of("people 4;meets 0 1;stays;");
        // eight rests, those that differ in one thing one slip apart; each goes on to the least that leads on
        due("tree(0)", x.tree(0), 7);
        treeIs(x, NONE, 0, 0, 1, 0, 1, 2, 3);
        due("tree(7)", x.tree(7), 7);
        treeIs(x, 1, 3, 0, 7, 0, 1, 2, NONE);
    }

    // ---- promise 20

    static void p20AsBits() {
        promise(20, "WINNERS, as bits of RESTS");
        due("winners() of the one rest", Due.of(ONE).winners(), 1);
        due("winners(), nobody is free", Due.of(NOBODY).winners(), 1);
        due("winners(): the last alone", Due.of("slip 0 2;").winners(), 2);
        due("winners(): the first alone", Due.of("slip 1 2;").winners(), 1);
        due("winners(): all of twelve", Due.of(TWELVE).winners(), 4095);
        due("winners(): the last of twelve", Due.of("people 6;answer copy;stays;keeps 2 1;").winners(), 2048);
    }

    static void p20TheLeastSum() {
        term(20, "WINNERS: the RESTS with the least sum.");
        CustomValley x = Due.of("people 2;habits 3;slip 0 2;");
        due("tree(0)", x.tree(0), 3);
        due("tree(1)", x.tree(1), 2);
        due("tree(2)", x.tree(2), 2);
        due("winners()", x.winners(), 6);
    }

    static void p20MoreThanTwelve() {
        promise(20, "FULL.");
        due("winners() of thirteen", Due.of(THIRTEEN).winners(), FULL);
        due("winners() of sixteen", Due.of(SIXTEEN).winners(), FULL);
        due("winners() of 1024", Due.of("people 10;worth 0 0 0;worth 1 1 0;stays;").winners(), FULL);
        due("winners() of twelve", Due.of(TWELVE_ONE_WINS).winners(), 1);
    }

    // ---- promises 21 to 23

    static void p21TheLeastCostOut() {
        promise(21, "RADIUS");
        CustomValley x = Due.of("slip 1 3;");
        due("radius(0)", x.radius(0), 6);
        due("radius(1)", x.radius(1), 2);
        CustomValley dear = Due.of("people 10;worth 0 0 0;worth 1 1 0;stays;slip 0 3;slip 1 3;");
        due("radius(0) of 1024", dear.radius(0), 3);
        due("radius(1023) of 1024", dear.radius(1023), 3);
    }

    static void p21OutOfItsBasin() {
        term(21, "RADIUS of a REST: the least cost from any of its STATES to a STATE out of its BASIN");
        // the second slip leads to a state that comes to both: it is out of the basin
        due("radius(0) of four", new CustomValley().radius(0), 2);
        due("radius(0) of three: the first slip leads out", Due.of("people 3;").radius(0), 1);
        due("radius(0) of five", Due.of("people 5;").radius(0), 2);
        due("radius(0) of ten", Due.of("people 10;").radius(0), 5);
        due("radius(1) of rings", Due.of(RINGS).radius(1), 1);
        // all meet one alone: if she slips, each may follow; if another does, nobody
        CustomValley first = Due.of("people 4;meets 0 1 0 2 0 3;");
        due("radius(0), person 0 in the midst", first.radius(0), 1);
        due("radius(1), person 0 in the midst", first.radius(1), 1);
        CustomValley last = Due.of("people 4;meets 3 0 3 1 3 2;");
        due("radius(0), person 3 in the midst", last.radius(0), 1);
        due("radius(1), person 3 in the midst", last.radius(1), 1);
    }

    static void p21NoSuchState() {
        term(21, "(none: if there is no such STATE).");
        due("radius(0), one rest", Due.of(ONE).radius(0), NONE);
        due("radius(0), a ring of all", Due.of("people 3;worth 0 0 0;worth 1 1 0;").radius(0), NONE);
        due("radius(0), nobody is free", Due.of(NOBODY).radius(0), NONE);
    }

    static void p21ItHasNone() {
        promise(21, "NONE: it has none");
        CustomValley x = Due.of(ONE);
        due("rest(0, 2): all are in its basin", x.rest(0, 2), x.told(5));
        due("radius(0)", x.radius(0), NONE);
    }

    static void p21NoSuchRest() {
        promise(21, "RANGE.");
        CustomValley x = Due.of(THREE);
        for (int k : NO_RESTS) {
            due("radius(" + k + ")", x.radius(k), RANGE);
        }
        due("radius(1), one rest", Due.of(ONE).radius(1), RANGE);
        due("radius(1024)", Due.of("people 10;worth 0 0 0;worth 1 1 0;stays;").radius(1024), RANGE);
    }

    static void p22TheGreatestOfTheLeast() {
        promise(22, "CORADIUS");
        CustomValley x = Due.of("slip 1 3;");
        due("coradius(0)", x.coradius(0), 2);
        due("coradius(1)", x.coradius(1), 6);
    }

    static void p22OfAllStates() {
        term(22, "CORADIUS: the greatest of all STATES' least cost to come to one of its STATES.");
        due("coradius(0), one rest", Due.of(ONE).coradius(0), 0);
        due("coradius(0), nobody is free", Due.of(NOBODY).coradius(0), 0);
        due("coradius(1) of rings", Due.of(RINGS).coradius(1), 1);
        due("coradius(0) of sixteen", Due.of(SIXTEEN).coradius(0), 4);
        CustomValley dear = Due.of("people 10;worth 0 0 0;worth 1 1 0;stays;slip 0 3;slip 1 3;");
        due("coradius(0), the greatest there is", dear.coradius(0), 30);
        due("coradius(1023), the greatest there is", dear.coradius(1023), 30);
        due("coradius(5), the greatest there is", dear.coradius(5), 30);
    }

    static void p22NoSuchRest() {
        promise(22, "RANGE.");
        CustomValley x = Due.of(THREE);
        for (int k : NO_RESTS) {
            due("coradius(" + k + ")", x.coradius(k), RANGE);
        }
        due("coradius(2)", x.coradius(2), 1);
    }

    static void p23TheRest() {
        promise(23, "SHORT: the REST");
        CustomValley x = Due.of("people 3;slip 0 2;");
        due("radius(1)", x.radius(1), 2);
        due("coradius(1), just below", x.coradius(1), 1);
        due("shortly()", x.shortly(), 1);
        due("shortly(), the other one", Due.of("people 3;slip 1 2;").shortly(), 0);
    }

    static void p23AboveItsCoradius() {
        term(23, "SHORT: the REST whose RADIUS is above its CORADIUS, or that has no RADIUS (there is one at most).");
        CustomValley alike = Due.of("people 3;");
        due("radius(0)", alike.radius(0), 1);
        due("coradius(0), as great", alike.coradius(0), 1);
        due("shortly()", alike.shortly(), NONE);
        due("shortly(), no radius", Due.of(ONE).shortly(), 0);
        due("shortly(), no radius, nobody is free", Due.of(NOBODY).shortly(), 0);
        due("shortly(), no radius, a ring", Due.of("people 3;worth 0 0 0;worth 1 1 0;").shortly(), 0);
        CustomValley last = Due.of("people 3;habits 3;slip 0 3;slip 1 3;slip 2 1;worth 2 2 3;");
        due("shortly(), the last of three", last.shortly(), 2);
    }

    static void p23None() {
        promise(23, "NONE.");
        due("shortly(): both alike", new CustomValley().shortly(), NONE);
        due("shortly(): three alike", Due.of(THREE).shortly(), NONE);
        due("shortly(): thirteen", Due.of(THIRTEEN).shortly(), NONE);
        due("shortly(): 1024", Due.of("people 10;worth 0 0 0;worth 1 1 0;stays;").shortly(), NONE);
    }

    // ---- promise 24

    static void p24TheSetAsBits() {
        promise(24, "CARRIED: the set of persons, as bits");
        due("carried(1, 0)", new CustomValley().carried(1, 0), 7);
        due("carried(0, 1)", new CustomValley().carried(0, 1), 7);
        due("carried(1, 0) of ten", Due.of("people 10;").carried(1, 0), 63);
        // with 1 it pays always: nobody must have it
        due("carried(1, 0), none is needed", Due.of("worth 1 0 9;worth 1 1 9;").carried(1, 0), 0);
        due("carried(1, 0), all are needed", Due.of("people 3;meets 0 1 1 2;").carried(1, 0), 7);
    }

    static void p24TheFewest() {
        term(24, "CARRIED: the fewest persons who must have HABIT h");
        // it pays always: nobody must have it
        due("nobody", Due.of("worth 1 0 9;worth 1 1 9;").carried(1, 0), 0);
        due("two who meet in a line", Due.of("people 4;meets 0 1 1 2 2 3;worth 1 1 9;").carried(1, 0), 3);
        // alone she whom all meet may turn back, and so may all the others
        due("one whom all meet and one of these", Due.of("people 4;meets 0 3 1 3 2 3;worth 1 1 9;").carried(1, 0), 9);
        due("four of six", Due.of("people 6;").carried(1, 0), 15);
        due("all", Due.of("people 3;meets 0 1 1 2;").carried(1, 0), 7);
    }

    static void p24AllOthersHaveG() {
        term(24, "all other FREE ones HABIT g, so that the STATE comes to that alone in which all FREE have h");
        // those with 1 turn to 2 by themselves, those with 0 never
        CustomValley x = Due.of("people 2;habits 3;worth 0 0 3;worth 2 1 2;");
        due("carried(2, 1)", x.carried(2, 1), 0);
        due("carried(2, 0)", x.carried(2, 0), 3);
        due("carried(2, 1) of four", Due.of("people 4;habits 3;").carried(2, 1), 7);
    }

    static void p24TheLeastSet() {
        term(24, "of as many the least set (bits).");
        due("any three of four", new CustomValley().carried(1, 0), 7);
        due("any two who meet", Due.of("people 4;meets 0 1 1 2 2 3;worth 1 1 9;").carried(1, 0), 3);
        due("any two of those who are free", Due.of("keeps 0 1;").carried(1, 0), 6);
    }

    static void p24FreeOnesAlone() {
        term(24, "(FREE ones alone are counted");
        due("one who keeps it helps", Due.of("keeps 0 1;").carried(1, 0), 6);
        due("one who keeps another is in the way", Due.of("keeps 0 0;").carried(1, 0), 14);
        due("nobody is free", Due.of(NOBODY).carried(1, 0), 0);
        due("nobody is free", Due.of(NOBODY).carried(0, 1), 0);
    }

    static void p24ARestByItself() {
        term(24, "it must be a REST by itself.)");
        due("a ring is none", Due.of(RINGS).carried(1, 0), NONE);
        due("but with stays it is", Due.of(RINGS + "stays;").carried(1, 0), 7);
        due("a state that is in no rest", Due.of("worth 0 0 0;worth 0 1 0;worth 1 0 1;").carried(0, 1), NONE);
    }

    static void p24NotEvenIfAllHaveIt() {
        promise(24, "NONE: not even if all FREE have h");
        CustomValley x = Due.of("worth 0 0 0;worth 0 1 0;worth 1 0 1;");
        due("carried(0, 1)", x.carried(0, 1), NONE);
        due("carried(0, 0)", x.carried(0, 0), NONE);
        due("carried(1, 0)", x.carried(1, 0), 0);
        due("carried(1, 0): one who keeps 0 draws her along", Due.of(ONE).carried(1, 0), NONE);
    }

    static void p24TheyMayBeAlike() {
        promise(24, "RANGE: no such HABITS (they may be alike).");
        CustomValley x = Due.of("habits 4;");
        for (int h = 0; h < 4; h++) {
            due("carried(" + h + ", " + h + ")", x.carried(h, h), 0);
        }
        due("carried(3, 0)", x.carried(3, 0), 7);
        for (int h : new int[] {LOW, -1, 4, 5, HIGH}) {
            due("carried(" + h + ", 0)", x.carried(h, 0), RANGE);
            due("carried(0, " + h + ")", x.carried(0, h), RANGE);
            due("carried(" + h + ", " + h + ")", x.carried(h, h), RANGE);
        }
        due("carried(2, 0) of two habits", new CustomValley().carried(2, 0), RANGE);
        due("carried(0, 2) of two habits", new CustomValley().carried(0, 2), RANGE);
        due("carried(2, 2), nobody is free", Due.of(NOBODY).carried(2, 2), RANGE);
    }

    // ---- promise 25

    static void p25TheSetAsBits() {
        promise(25, "BOUND: the set of persons, as bits");
        due("bound(1)", new CustomValley().bound(1), 1);
        due("bound(1), slips to it are dear", Due.of("slip 1 3;").bound(1), 3);
        due("bound(0), it wins anyway", Due.of("slip 1 3;").bound(0), 0);
    }

    static void p25TheFewest() {
        term(25, "BOUND: the fewest FREE persons who must keep HABIT h");
        due("one of each that meet", Due.of("people 4;meets 0 1 2 3;").bound(1), 5);
        due("the last alone", Due.of("people 3;meets 0 1;stays;keeps 0 1;").bound(1), 4);
        // persons 0 and 1 would do, a lesser set but two; person 3 whom all meet does alone
        due("the fewest go ahead of the least set", Due.of("people 4;slip 0 3;meets 0 3 1 3 2 3;").bound(0), 8);
    }

    static void p25AllStatesOfAllWinners() {
        term(25, "so that all STATES of all WINNERS have h for all who were FREE");
        due("both win: nobody bound is not enough", Due.of("people 2;").bound(0), 1);
        due("a ring: she who meets nobody must be bound herself", Due.of(RINGS).bound(1), 5);
        due("one who keeps another needn't have it", Due.of("people 2;keeps 0 0;").bound(0), 0);
        due("one who keeps another is not asked", Due.of("people 2;keeps 0 0;").bound(1), 2);
    }

    static void p25TheLeastSet() {
        term(25, "; of as many the least set.");
        due("any one of four", new CustomValley().bound(1), 1);
        due("any two of four", Due.of("slip 1 3;").bound(1), 3);
        due("any one of those who are free", Due.of("people 5;keeps 0 0;slip 0 3;slip 1 3;").bound(1) & 1, 0);
    }

    static void p25NotEvenByAll() {
        promise(25, "NONE: not even by all");
        // with all bound there is one state, and in it all have h
        CustomValley x = Due.of("people 3;answer most;stays;keeps 1 1;meets 0 1 1 2;");
        due("bound(0): all who are free", x.bound(0), 5);
        due("bound(1)", x.bound(1), 0);
        CustomValley six = Due.of("people 6;worth 0 0 99;worth 0 1 99;worth 1 1 0;");
        due("bound(1): all of six", six.bound(1), 63);
    }

    static void p25NoSuchHabit() {
        promise(25, "RANGE");
        CustomValley x = new CustomValley();
        for (int h : new int[] {LOW, -1, 2, 3, HIGH}) {
            due("bound(" + h + ")", x.bound(h), RANGE);
        }
        CustomValley four = Due.of("people 3;habits 4;");
        due("bound(3)", four.bound(3), 1);
        due("bound(4)", four.bound(4), RANGE);
        due("bound(2), nobody is free", Due.of(NOBODY).bound(2), RANGE);
        due("bound(2) of seven people", Due.of("people 7;").bound(2), RANGE);
    }

    static void p25MoreThanSixPeople() {
        promise(25, "FULL: more than 6 people.");
        due("bound(1) of six", Due.of("people 6;").bound(1), 1);
        due("bound(1) of seven", Due.of("people 7;").bound(1), FULL);
        due("bound(1) of ten", Due.of("people 10;").bound(1), FULL);
        due("bound(0) of seven, three keep", Due.of("people 7;keeps 0 0;keeps 1 0;keeps 2 0;").bound(0), FULL);
    }

    static void p25AtMostSixPeople() {
        term(25, "(Both for at most 6 people");
        due("bound(0) of six", Due.of("people 6;").bound(0), 1);
        due("bound(0) of seven", Due.of("people 7;").bound(0), FULL);
    }

    static void p25MoreThanTwelveRests() {
        term(25, "with more than 12 RESTS it isn't so.");
        CustomValley twelve = Due.of(TWELVE_ONE_WINS);
        due("rests()", twelve.rests(), 12);
        due("bound(0) of twelve", twelve.bound(0), 0);
        // habit 1 wins alone among the thirteen, but with so many it isn't so
        CustomValley thirteen = Due.of(THIRTEEN);
        due("rests()", thirteen.rests(), 13);
        due("bound(1) of thirteen", thirteen.bound(1), 1);
        due("bound(0) of sixteen", Due.of(SIXTEEN + "slip 1 3;").bound(0), 1);
    }

    static void p25NobodyFree() {
        term(25, "Nobody FREE: it is so.)");
        due("bound(0)", Due.of(NOBODY).bound(0), 0);
        due("bound(1)", Due.of(NOBODY).bound(1), 0);
        due("bound(2): nobody has it", Due.of("people 2;habits 3;keeps 0 0;keeps 1 1;").bound(2), 0);
    }

    static void p25AskingChangesNothing() {
        promise(25, "BOUND: the set of persons, as bits");
        CustomValley x = busy();
        refused(x, "bound(2)", () -> x.bound(2), RANGE);
        refused(x, "bound(1)", () -> x.bound(1), x.bound(1));
        due("winners()", x.winners(), 1);
    }

    // ---- promise 26

    static void p26TheLeastNumber() {
        promise(26, "GIFT");
        due("gift(1)", new CustomValley().gift(1), 1);
        due("gift(0), it wins anyway", Due.of("slip 1 3;").gift(0), 0);
        // 2 and the gift against 5; with 3 both are as good
        CustomValley one = Due.of("people 2;keeps 1 0;worth 0 0 5;worth 1 0 2;");
        due("gift(1)", one.gift(1), 4);
        due("gift(0)", one.gift(0), 0);
    }

    static void p26FromNothingTo99() {
        term(26, "GIFT: the least number 0 .. 99 that HABIT h must get besides at each meeting");
        due("gift(1), the greatest", Due.of("people 2;worth 0 0 98;worth 0 1 98;worth 1 1 0;").gift(1), 99);
        due("gift(1), just too great", Due.of("people 2;worth 0 0 99;worth 0 1 99;worth 1 1 0;").gift(1), NONE);
        due("gift(1), none is needed", Due.of("people 2;worth 1 1 2;worth 1 0 1;").gift(1), 0);
        // it is got with both habits: with 0 alone 51 would be enough, with 1 alone never
        due("gift(1) at each meeting", Due.of("people 2;worth 0 0 50;worth 0 1 60;worth 1 1 0;").gift(1), 61);
        // 99 and 99: a worth may be above 99 then
        due("gift(1) above 99", Due.of("people 2;worth 0 0 99;worth 0 1 99;worth 1 0 99;worth 1 1 99;").gift(1), 1);
    }

    static void p26AllStatesOfAllWinners() {
        term(26, ", so that all STATES of all WINNERS have h for all FREE.");
        due("both win with nothing", Due.of("people 2;").gift(0), 1);
        // as good as the other: a ring of both, until it is better
        due("a ring wins with 5", Due.of("people 2;worth 0 0 5;worth 0 1 5;worth 1 1 0;").gift(1), 6);
        due("one who keeps another needn't have it", Due.of("people 2;keeps 1 0;worth 1 0 2;").gift(1), 0);
    }

    static void p26NoneIsEnough() {
        promise(26, "NONE: none is enough");
        due("gift(1): most don't ask what it is worth", Due.of("answer most;").gift(1), NONE);
        due("gift(1): one meets nobody", Due.of(RINGS).gift(1), NONE);
        due("gift(0): one meets nobody", Due.of(RINGS).gift(0), NONE);
    }

    static void p26NoSuchHabit() {
        promise(26, "RANGE");
        CustomValley x = new CustomValley();
        for (int h : new int[] {LOW, -1, 2, 3, HIGH}) {
            due("gift(" + h + ")", x.gift(h), RANGE);
        }
        CustomValley four = Due.of("people 3;habits 4;");
        due("gift(3)", four.gift(3), 1);
        due("gift(4)", four.gift(4), RANGE);
        due("gift(2), nobody is free", Due.of(NOBODY).gift(2), RANGE);
        due("gift(2) of seven people", Due.of("people 7;").gift(2), RANGE);
    }

    static void p26MoreThanSixPeople() {
        promise(26, "FULL: more than 6 people.");
        due("gift(1) of six", Due.of("people 6;").gift(1), 1);
        due("gift(1) of seven", Due.of("people 7;").gift(1), FULL);
        due("gift(1) of ten", Due.of("people 10;").gift(1), FULL);
    }

    static void p26AtMostSixPeople() {
        term(26, "(Both for at most 6 people");
        due("gift(0) of six", Due.of("people 6;").gift(0), 1);
        due("gift(0) of seven", Due.of("people 7;").gift(0), FULL);
    }

    static void p26MoreThanTwelveRests() {
        term(26, "with more than 12 RESTS it isn't so.");
        due("gift(0) of twelve", Due.of(TWELVE_ONE_WINS).gift(0), 0);
        // with 1 habit 0 wins alone among thirteen, with 2 there are fewer
        String text = "people 4;habits 3;worth 1 0 1;answer copy;stays;";
        due("rests()", Due.of(text).rests(), 15);
        due("rests() with 1", Due.of(text + "worth 0 0 2;worth 0 1 1;worth 0 2 1;").rests(), 13);
        due("gift(0)", Due.of(text).gift(0), 2);
        // 0 wins alone among sixteen, and with 2 there are eight; of 32 there are always sixteen
        due("gift(0) of sixteen", Due.of(SIXTEEN + "slip 1 3;").gift(0), 2);
        due("gift(0) of 32", Due.of("people 6;meets 0 1;stays;slip 1 3;").gift(0), NONE);
    }

    static void p26NobodyFree() {
        term(26, "Nobody FREE: it is so.)");
        due("gift(0)", Due.of(NOBODY).gift(0), 0);
        due("gift(1)", Due.of(NOBODY).gift(1), 0);
        due("gift(2): nobody has it", Due.of("people 2;habits 3;keeps 0 0;keeps 1 1;").gift(2), 0);
    }

    static void p26OneGiftDoesNotChangeTheNext() {
        promise(26, "GIFT");
        CustomValley x = Due.of("answer most;slip 1 3;");
        due("gift(1)", x.gift(1), NONE);
        due("gift(0) behind it", x.gift(0), 0);
        due("gift(1) again", x.gift(1), NONE);
        CustomValley nobody = Due.of(NOBODY);
        due("gift(0), nobody is free", nobody.gift(0), 0);
        due("gift(1) behind it", nobody.gift(1), 0);
        CustomValley both = new CustomValley();
        due("gift(0)", both.gift(0), 1);
        due("gift(1) behind it", both.gift(1), 1);
        due("bound(1) behind both", both.bound(1), 1);
        due("gift(0) again", both.gift(0), 1);
    }

    static void p26AskingChangesNothing() {
        promise(26, "GIFT");
        CustomValley x = busy();
        refused(x, "gift(2)", () -> x.gift(2), RANGE);
        refused(x, "gift(1)", () -> x.gift(1), NONE);
        due("winners()", x.winners(), 1);
    }
}
