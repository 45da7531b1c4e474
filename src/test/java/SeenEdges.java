/** Promises 34 to 38: what was seen, put right and explained. */
final class SeenEdges extends Edge {
    private static final String KEEPER = "keeps 0 1;";
    private static final String DEAREST = "people 10;worth 0 0 0;worth 1 1 0;stays;slip 0 3;slip 1 3;";
    private static final int[] NO_STATES = {LOW, -1, 16, 17, 1024, HIGH};

    private SeenEdges() {
    }

    // ---- promise 34

    static void p34ItsNumber() {
        promise(34, "A STATE was SEEN at a DAY, told at a STEP: its number");
        CustomValley x = new CustomValley();
        for (int i = 0; i < 20; i++) {
            due("see number " + i, x.see(i / 3, 2 * i, i % 16), i);
            due("count(1)", x.count(1), i + 1);
        }
    }

    static void p34NoSuchStep() {
        promise(34, "RANGE: no such STEP");
        CustomValley x = busy();
        for (int step : new int[] {LOW, -1, 0, 2, 1000, 1001, HIGH}) {
            refused(x, "see(" + step + ", 30, 0), the latest is 3", () -> x.see(step, 30, 0), RANGE);
        }
        due("see(3, 30, 0): as late as the latest", x.see(3, 30, 0), 2);
        due("see(999, 31, 0)", x.see(999, 31, 0), 3);
        due("see(999, 32, 0)", x.see(999, 32, 0), 4);
        due("see(998, 33, 0)", x.see(998, 33, 0), RANGE);
        CustomValley fresh = new CustomValley();
        due("see(-1, 0, 0)", fresh.see(-1, 0, 0), RANGE);
        due("see(1000, 0, 0)", fresh.see(1000, 0, 0), RANGE);
        due("see(0, 0, 0)", fresh.see(0, 0, 0), 0);
    }

    static void p34NoSuchState() {
        promise(34, "RANGE: no such STEP, STATE");
        CustomValley x = busy();
        for (int s : NO_STATES) {
            refused(x, "see(3, 30, " + s + ")", () -> x.see(3, 30, s), RANGE);
        }
        due("see(0, 0, 0): none of the states", Due.of(KEEPER).see(0, 0, 0), RANGE);
        due("see(0, 0, 1)", Due.of(KEEPER).see(0, 0, 1), 0);
        due("see(0, 0, 1024)", Due.of("people 10;").see(0, 0, 1024), RANGE);
        due("see(0, 0, 1023)", Due.of("people 10;").see(0, 0, 1023), 0);
    }

    static void p34ADayNotAbove() {
        promise(34, "a DAY not above those SEEN");
        CustomValley x = busy();
        for (int day : new int[] {LOW, -1, 0, 10, 15, 19, 20, 1000, HIGH}) {
            refused(x, "see(3, " + day + ", 0), the last was 20", () -> x.see(3, day, 0), RANGE);
        }
        due("see(3, 21, 0)", x.see(3, 21, 0), 2);
        due("see(3, 999, 0)", x.see(3, 999, 0), 3);
        due("see(3, 999, 0) again", x.see(3, 999, 0), RANGE);
        CustomValley fresh = new CustomValley();
        due("see(0, -1, 0)", fresh.see(0, -1, 0), RANGE);
        due("see(0, 1000, 0)", fresh.see(0, 1000, 0), RANGE);
        due("see(0, 999, 0)", fresh.see(0, 999, 0), 0);
    }

    static void p34ARefusedStepIsNotTheLatest() {
        promise(34, "RANGE: no such STEP");
        CustomValley x = new CustomValley();
        x.see(5, 5, 0);
        x.see(9, 5, 0);
        x.see(9, 6, 16);
        x.right(9, 1, 0);
        x.right(9, 0, 16);
        due("see(5, 6, 0)", x.see(5, 6, 0), 1);
    }

    static void p34TheTwentyFirst() {
        promise(34, "FULL.");
        CustomValley x = new CustomValley();
        for (int i = 0; i < 19; i++) {
            x.see(0, i, 0);
        }
        due("see: the 20th", x.see(0, 19, 0), 19);
        refused(x, "see: the 21st", () -> x.see(1, 20, 0), FULL);
        due("see: the 21st, no such day", x.see(0, 19, 0), RANGE);
        due("see: the 21st, no such state", x.see(0, 20, 16), RANGE);
        due("see: the 21st, no such step", x.see(1000, 20, 0), RANGE);
        due("right(0, 19, 1): the step of a refused one is not the latest", x.right(0, 19, 1), 1);
    }

    static void p34AtMostTwentyFromNought() {
        term(34, "SEEN, at most 20, numbered from 0");
        CustomValley x = new CustomValley();
        due("the first", x.see(0, 0, 0), 0);
        for (int i = 1; i < 19; i++) {
            x.see(0, i, 0);
        }
        due("the twentieth", x.see(0, 19, 0), 19);
        due("the 21st", x.see(0, 20, 0), FULL);
        due("count(1)", x.count(1), 20);
    }

    static void p34RisingDays() {
        term(34, "a STATE at a DAY (0 .. 999, rising)");
        CustomValley x = new CustomValley();
        due("see(0, -1, 15)", x.see(0, -1, 15), RANGE);
        due("see(0, 0, 15)", x.see(0, 0, 15), 0);
        due("see(0, 0, 15): the same day", x.see(0, 0, 15), RANGE);
        due("see(0, 1, 15)", x.see(0, 1, 15), 1);
        due("see(0, 999, 15)", x.see(0, 999, 15), 2);
        due("see(0, 1000, 15)", x.see(0, 1000, 15), RANGE);
        due("see(0, 998, 15): the day falls", x.see(0, 998, 15), RANGE);
    }

    static void p34StepsThatNeverFall() {
        term(34, "told at a STEP of telling (0 .. 999, never falling)");
        CustomValley x = new CustomValley();
        due("see(-1, 0, 15)", x.see(-1, 0, 15), RANGE);
        due("see(0, 0, 15)", x.see(0, 0, 15), 0);
        due("see(0, 1, 15): the same step", x.see(0, 1, 15), 1);
        due("see(999, 2, 15)", x.see(999, 2, 15), 2);
        due("see(998, 3, 15): the step falls", x.see(998, 3, 15), RANGE);
        due("see(1000, 3, 15)", x.see(1000, 3, 15), RANGE);
        due("see(999, 3, 15)", x.see(999, 3, 15), 3);
    }

    // ---- promise 35

    static void p35HowOftenItWas() {
        promise(35, "One that was SEEN is put RIGHT at a STEP: how often it was");
        CustomValley x = new CustomValley();
        x.see(0, 0, 0);
        x.see(0, 1, 0);
        due("right(0, 0, 1)", x.right(0, 0, 1), 1);
        due("right(0, 0, 2)", x.right(0, 0, 2), 2);
        due("right(0, 1, 1): the other one", x.right(0, 1, 1), 1);
        due("right(1, 0, 3)", x.right(1, 0, 3), 3);
        due("count(2)", x.count(2), 4);
    }

    static void p35NoSuchStep() {
        promise(35, "RANGE");
        CustomValley x = busy();
        for (int step : new int[] {LOW, -1, 0, 2, 1000, HIGH}) {
            refused(x, "right(" + step + ", 0, 1), the latest is 3", () -> x.right(step, 0, 1), RANGE);
        }
        due("right(3, 0, 1): as late as the latest", x.right(3, 0, 1), 1);
        due("right(999, 0, 1)", x.right(999, 0, 1), 2);
        due("right(998, 0, 1)", x.right(998, 0, 1), RANGE);
        due("see(998, 30, 0): telling has come to 999", x.see(998, 30, 0), RANGE);
    }

    static void p35NoneThatWasSeen() {
        promise(35, "RANGE");
        due("right(0, 0, 0): none was seen", new CustomValley().right(0, 0, 0), RANGE);
        CustomValley x = busy();
        for (int k : new int[] {LOW, -1, 2, 3, 20, HIGH}) {
            refused(x, "right(3, " + k + ", 0), two were seen", () -> x.right(3, k, 0), RANGE);
        }
        CustomValley full = new CustomValley();
        for (int i = 0; i < 20; i++) {
            full.see(0, i, 0);
        }
        due("right(0, 19, 1)", full.right(0, 19, 1), 1);
        due("right(0, 20, 1)", full.right(0, 20, 1), RANGE);
    }

    static void p35NoSuchState() {
        promise(35, "RANGE");
        CustomValley x = busy();
        for (int s : NO_STATES) {
            refused(x, "right(3, 0, " + s + ")", () -> x.right(3, 0, s), RANGE);
        }
        CustomValley keeper = Due.of(KEEPER);
        keeper.see(0, 0, 1);
        due("right(0, 0, 2): none of the states", keeper.right(0, 0, 2), RANGE);
        due("right(0, 0, 3)", keeper.right(0, 0, 3), 1);
    }

    static void p35TheTwentyFirstInAll() {
        promise(35, "FULL: the 21st in all.");
        CustomValley x = new CustomValley();
        x.see(0, 0, 0);
        x.see(0, 1, 0);
        for (int i = 0; i < 19; i++) {
            due("right number " + i, x.right(0, i % 2, i % 16), 1 + i / 2);
        }
        due("right: the 20th", x.right(0, 1, 3), 10);
        due("count(2)", x.count(2), 20);
        refused(x, "right(1, 0, 5): the 21st", () -> x.right(1, 0, 5), FULL);
        refused(x, "right(1, 1, 5): the 21st", () -> x.right(1, 1, 5), FULL);
        due("right(0, 2, 5): the 21st, none such", x.right(0, 2, 5), RANGE);
        due("right(0, 0, 16): the 21st, no state", x.right(0, 0, 16), RANGE);
        due("see(0, 2, 0): the step of a refused one is not the latest", x.see(0, 2, 0), 2);
    }

    static void p35AnotherStateLater() {
        term(35, "perhaps put RIGHT (another STATE) later.");
        CustomValley x = new CustomValley();
        x.see(0, 0, 0);
        x.see(5, 1, 15);
        due("explained(5, 0)", x.explained(5, 0), 2);
        due("right(6, 1, 0)", x.right(6, 1, 0), 1);
        due("explained(6, 0)", x.explained(6, 0), 0);
        due("explained(5, 0): as it was known", x.explained(5, 0), 2);
        due("right(6, 1, 1): in the same step", x.right(6, 1, 1), 2);
        due("explained(6, 0): the later one counts", x.explained(6, 0), 1);
        due("right(6, 1, 15): back to the first", x.right(6, 1, 15), 3);
        due("explained(6, 0)", x.explained(6, 0), 2);
    }

    // ---- promise 36

    private static CustomValley threeSeen() {
        CustomValley x = Due.of("people 3;worth 0 0 9;worth 0 1 9;worth 1 1 1;worth 1 0 0;");
        x.see(2, 10, 0);
        x.see(4, 20, 7);
        x.see(6, 30, 0);
        return x;
    }

    static void p36AsKnownAtAStep() {
        promise(36, "EXPLAINED as known at a STEP, by an answer");
        CustomValley x = threeSeen();
        int[] best = {0, 0, 0, 0, 3, 3, 3};
        int[] most = {0, 0, 0, 0, 1, 1, 2};
        for (int step = 0; step < 7; step++) {
            due("explained(" + step + ", 0)", x.explained(step, 0), best[step]);
            due("explained(" + step + ", 1)", x.explained(step, 1), most[step]);
        }
        due("explained(999, 0)", x.explained(999, 0), 3);
        due("told(3) is as it was", x.told(3), 0);
    }

    static void p36StaysAsTold() {
        term(36, "EXPLAINED as known at a STEP, by an answer (0 best, 1 most, 2 copy; stays as told)");
        // she who meets none is free to go by best and most, but copies herself
        CustomValley goes = Due.of("people 3;meets 0 1;slip 1 2;");
        CustomValley stays = Due.of("people 3;meets 0 1;slip 1 2;stays;");
        for (CustomValley x : new CustomValley[] {goes, stays}) {
            x.see(0, 0, 0);
            x.see(0, 1, 4);
            x.see(0, 2, 4);
        }
        due("explained(0, 0)", goes.explained(0, 0), 0);
        due("explained(0, 1)", goes.explained(0, 1), 0);
        due("explained(0, 2)", goes.explained(0, 2), 2);
        for (int answer = 0; answer < 3; answer++) {
            due("explained(0, " + answer + ") with stays", stays.explained(0, answer), 2);
        }
    }

    static void p36OneThatIsNotKnownYetIsLeftOut() {
        term(36, "the sum of FEWEST from each SEEN STATE, by rising DAYS, to the next.");
        CustomValley x = new CustomValley();
        x.see(0, 0, 0);
        x.see(3, 1, 15);
        x.see(3, 2, 0);
        x.right(7, 1, 0);
        due("explained(2, 0)", x.explained(2, 0), 0);
        due("explained(3, 0)", x.explained(3, 0), 4);
        due("explained(6, 0)", x.explained(6, 0), 4);
        due("explained(7, 0)", x.explained(7, 0), 0);
    }

    static void p36TheGreatestSum() {
        promise(36, "NONE: one can't come to the next at all");
        // each can come to the next by slips; the dearest row of twenty
        CustomValley x = Due.of(DEAREST);
        for (int i = 0; i < 20; i++) {
            x.see(0, i, i % 2 == 0 ? 0 : 1023);
        }
        due("explained(0, 0)", x.explained(0, 0), 19 * 30);
        CustomValley keeper = Due.of("people 2;keeps 0 0;keeps 1 1;");
        keeper.see(0, 0, 2);
        keeper.see(0, 1, 2);
        due("explained(0, 0), nobody is free", keeper.explained(0, 0), 0);
    }

    static void p36NoSuchStepOrAnswer() {
        promise(36, "RANGE.");
        CustomValley x = threeSeen();
        for (int step : new int[] {LOW, -1, 1000, 1001, HIGH}) {
            due("explained(" + step + ", 0)", x.explained(step, 0), RANGE);
        }
        for (int answer : new int[] {LOW, -1, 3, 4, HIGH}) {
            due("explained(6, " + answer + ")", x.explained(6, answer), RANGE);
        }
        due("explained(0, 2)", x.explained(0, 2), 0);
        due("explained(999, 2) is a sum", x.explained(999, 2) >= 0 ? 1 : 0, 1);
        due("explained(1000, 0), none seen", new CustomValley().explained(1000, 0), RANGE);
        due("explained(0, 3), none seen", new CustomValley().explained(0, 3), RANGE);
    }

    static void p36FewerThanTwo() {
        promise(36, "(0 with fewer than two.)");
        CustomValley x = new CustomValley();
        for (int answer = 0; answer < 3; answer++) {
            due("explained(0, " + answer + ") of none", x.explained(0, answer), 0);
            due("explained(999, " + answer + ") of none", x.explained(999, answer), 0);
        }
        x.see(5, 0, 15);
        due("explained(4, 0) of none known", x.explained(4, 0), 0);
        due("explained(5, 0) of one", x.explained(5, 0), 0);
        x.right(5, 0, 3);
        due("explained(5, 0) of one put right", x.explained(5, 0), 0);
        x.see(6, 1, 12);
        due("explained(5, 0) of one known", x.explained(5, 0), 0);
        due("explained(6, 0) of two is a cost", x.explained(6, 0), x.fewest(3, 12));
    }

    // ---- promise 37

    static void p37AsKnownAtAStep() {
        promise(37, "LIKELIEST as known at a STEP");
        CustomValley x = threeSeen();
        due("likeliest(3): nothing to explain", x.likeliest(3), 0);
        due("likeliest(4)", x.likeliest(4), 1);
        due("likeliest(6)", x.likeliest(6), 1);
        x.right(8, 1, 0);
        due("likeliest(7)", x.likeliest(7), 1);
        due("likeliest(8)", x.likeliest(8), 0);
    }

    static void p37TheLeastSumThenTheLeast() {
        term(37, "LIKELIEST: the answer with the least sum; then the least.");
        // all alike: the least
        likeliest("people 2;", 0, 3, 0, 1, 1, 1);
        // (2 2 1 0) to (2 2 0 0): person 2 copies the one with 0, who gets most
        likeliest("people 4;habits 3;worth 0 1 3;stays;", 17, 8, 2, 1, 1, 0);
        // most and copy alike, both better than best: the least of them
        likeliest("people 3;habits 3;worth 1 0 3;", 2, 0, 1, 1, 0, 0);
        // best and copy alike, both better than most
        likeliest("people 4;worth 1 1 0;", 7, 0, 0, 0, 1, 0);
    }

    private static void likeliest(String text, int from, int to, int want, int... sums) {
        CustomValley x = Due.of(text);
        x.see(0, 0, from);
        x.see(0, 1, to);
        for (int answer = 0; answer < 3; answer++) {
            due("explained(0, " + answer + ") of " + text, x.explained(0, answer), sums[answer]);
        }
        due("likeliest(0) of " + text, x.likeliest(0), want);
    }

    static void p37NoneExplainsIt() {
        promise(37, "NONE: none explains it");
        // there is always one that does
        CustomValley x = new CustomValley();
        due("likeliest(0) of none", x.likeliest(0), 0);
        x.see(0, 0, 0);
        due("likeliest(0) of one", x.likeliest(0), 0);
        CustomValley dear = Due.of(DEAREST);
        for (int i = 0; i < 20; i++) {
            dear.see(0, i, i % 2 == 0 ? 0 : 1023);
        }
        due("likeliest(0) of the dearest row", dear.likeliest(0) >= 0 ? 1 : 0, 1);
    }

    static void p37NoSuchStep() {
        promise(37, "RANGE.");
        CustomValley x = threeSeen();
        for (int step : new int[] {LOW, -1, 1000, 1001, HIGH}) {
            due("likeliest(" + step + ")", x.likeliest(step), RANGE);
        }
        due("likeliest(0)", x.likeliest(0), 0);
        due("likeliest(999)", x.likeliest(999), 1);
        due("likeliest(1000), none seen", new CustomValley().likeliest(1000), RANGE);
    }

    // ---- promise 38

    static void p38Counts() {
        promise(38, "What 0: clauses of the VALLEY, 1: SEEN, 2: puttings RIGHT, 3: bytes of THE TAPE.");
        CustomValley x = new CustomValley();
        for (int what = 0; what < 4; what++) {
            due("count(" + what + ") of a new one", x.count(what), 0);
        }
        CustomValley y = busy();
        int[] want = {4, 2, 1, 20};
        for (int what = 0; what < 4; what++) {
            due("count(" + what + ")", y.count(what), want[what]);
        }
        y.valley();
        int[] then = {1, 0, 0, 0};
        for (int what = 0; what < 4; what++) {
            due("count(" + what + ") behind a valley", y.count(what), then[what]);
        }
    }

    static void p38TheMost() {
        promise(38, "What 0: clauses of the VALLEY, 1: SEEN, 2: puttings RIGHT, 3: bytes of THE TAPE.");
        CustomValley x = new CustomValley();
        for (int i = 0; i < 21; i++) {
            x.see(0, i, 0);
            x.right(0, 0, 1);
        }
        Due.put(x, " ".repeat(700));
        x.feed(0, 0, 0, 0, 0);
        due("count(1)", x.count(1), 20);
        due("count(2)", x.count(2), 20);
        due("count(3)", x.count(3), 700);
    }

    static void p38Others() {
        promise(38, "NONE for others.");
        CustomValley x = busy();
        for (int what : new int[] {LOW, -1, 4, 5, 10, HIGH}) {
            due("count(" + what + ")", x.count(what), NONE);
        }
    }
}
