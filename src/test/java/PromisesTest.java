/** Each promise of the document by its number: ordinary inputs, the edges it names, wrong inputs. */
public final class PromisesTest {
    private static final int NONE = CustomValley.NONE;
    private static final int RANGE = CustomValley.RANGE;
    private static final int FULL = CustomValley.FULL;
    private static final int STATE = CustomValley.STATE;
    private static final int LOW = Integer.MIN_VALUE;
    private static final int HIGH = Integer.MAX_VALUE;
    private static final int[] WRONG = {LOW, -5, -1, 1024, 4096, HIGH};

    /** Persons 0 and 1 meet, 2 meets nobody: two rings of two states, {0, 4} and {3, 7}. */
    private static final String RINGS = "people 3;meets 0 1;";
    /** Slips to 1 cost three times as much. */
    private static final String DEAR = "slip 1 3;";
    /** Three customs, each one slip away from each: rests 0, 4 and 8. */
    private static final String THREE = "people 2;habits 3;";
    /** Persons 2, 3 and 4 meet nobody and stay: sixteen rests. */
    private static final String SIXTEEN = "people 5;meets 0 1;stays;";

    private static final String TWELVE = "people 6;slip 1 3;meets 3 0 3 1 5 0 5 2;stays;";
    private static final String THIRTEEN = "people 5;worth 0 0 0;meets 1 0 3 0 3 1 3 2 4 1;answer copy;stays;";

    private static int promise = 0;

    public static void main(String[] args) {
        newObject();
        feed();
        end();
        valley();
        fault();
        told();
        habitWorth();
        answers();
        move();
        rests();
        restOfComes();
        fewestWay();
        between();
        trees();
        winners();
        radius();
        carried();
        bound();
        gift();
        flow();
        run();
        judge();
        see();
        right();
        explained();
        count();
        wildNumbers();
        Due.finish("PromisesTest");
    }

    private static void due(String call, long got, long want) {
        Due.due("promise " + promise + ": " + call, got, want);
    }

    private static void newObject() {
        promise = 1;
        CustomValley x = new CustomValley();
        int[] told = {4, 2, 15, 0, 0, 16};
        for (int i = 0; i < told.length; i++) {
            due("told(" + i + ")", x.told(i), told[i]);
        }
        for (int p = 0; p < 4; p++) {
            due("told(20 + p)", x.told(20 + p), 15 & ~(1 << p));
            due("told(60 + p)", x.told(60 + p), NONE);
        }
        for (int what = 0; what < 4; what++) {
            due("count(" + what + ")", x.count(what), 0);
            due("judged(" + what + ")", x.judged(what), NONE);
        }
        due("fault(0)", x.fault(0), 0);
        due("fault(1)", x.fault(1), NONE);
        due("way(-1)", x.way(-1), NONE);
        due("way(0)", x.way(0), NONE);
        due("treeTo(0)", x.treeTo(0), NONE);
        due("parts(0)", x.parts(0), NONE);
        due("partsOf(0)", x.partsOf(0), NONE);
        due("ran(0)", x.ran(0), NONE);
        due("rests()", x.rests(), 2);
        due("see(0, 0, 0)", x.see(0, 0, 0), 0);
    }

    private static void feed() {
        promise = 2;
        CustomValley x = new CustomValley();
        due("feed", x.feed(0x30313130, 0x32310000, 0, 0, 0), 20);
        due("end", x.end(6), 6);
        due("judge(0): the highest byte is first", x.judge(0), 3);
        due("judged(2)", x.judged(2), 5);
        due("feed", x.feed(0, 0, 0, 0, 0x6f), 20);
        due("valley()", x.valley(), NONE);
        due("feed", x.feed(0x30303030, 0x30303030, 0x30303030, 0x30303030, 0x30303031), 20);
        due("judge(0)", x.judge(0), 10);
        due("judged(2): the lowest byte is last", x.judged(2), 1);
        for (int i = 1; i <= 35; i++) {
            due("feed", x.feed(LOW, -1, HIGH, 0, 1), 20 * i);
        }
        due("feed beyond 700", x.feed(0, 0, 0, 0, 0), FULL);
        due("count(3)", x.count(3), 700);
        due("end(681)", x.end(681), 681);
        due("feed beyond 700", x.feed(0, 0, 0, 0, 0), FULL);
        due("end(680)", x.end(680), 680);
        due("feed", x.feed(0, 0, 0, 0, 0), 700);
    }

    private static void end() {
        promise = 3;
        CustomValley x = new CustomValley();
        due("end(0)", x.end(0), 0);
        due("end(1)", x.end(1), NONE);
        x.feed(0x70656f70, 0x6c652033, 0x3b000000, 0, 0);
        due("end(-1)", x.end(-1), NONE);
        due("end(21)", x.end(21), NONE);
        due("end(HIGH)", x.end(HIGH), NONE);
        due("end(LOW)", x.end(LOW), NONE);
        due("count(3)", x.count(3), 20);
        due("end(20)", x.end(20), 20);
        due("end(9)", x.end(9), 9);
        due("end(10)", x.end(10), NONE);
        due("valley()", x.valley(), 1);
        due("told(0)", x.told(0), 3);
    }

    private static void valley() {
        promise = 4;
        CustomValley x = new CustomValley();
        due("valley() of nothing", Due.read(x, ""), 0);
        due("valley() of blanks", Due.read(x, " \n \n"), 0);
        due("valley()", Due.read(x, "people 3;habits 3;worth 0 1 7;meets 0 1;answer copy;stays;keeps 0 1;slip 2 2;"), 8);
        due("count(3)", x.count(3), 0);
        due("count(0)", x.count(0), 8);
        due("valley() with a fault", Due.read(x, "people 5;habits 9;"), NONE);
        due("count(3) behind a fault", x.count(3), 0);
        due("told(0) stays", x.told(0), 3);
        due("told(1) stays", x.told(1), 3);
        due("count(0) stays", x.count(0), 8);

        Due.read(x, "");
        x.fewest(0, 15);
        x.tree(0);
        x.flow(0, 1, 2);
        x.run(0, 1, 1, 2);
        Due.put(x, "01");
        x.judge(0);
        x.see(7, 5, 0);
        x.right(8, 0, 1);
        Due.read(x, "people;");
        due("count(1) with a fault", x.count(1), 1);
        due("count(2) with a fault", x.count(2), 1);
        due("way(-1) with a fault", x.way(-1), 4);
        due("treeTo(1) with a fault", x.treeTo(1), 0);
        due("parts(0) with a fault", x.parts(0), 750000000);
        due("ran(0) with a fault", x.ran(0), 1);
        due("see: the latest step with a fault", x.see(7, 6, 0), RANGE);
        due("valley()", Due.read(x, "people 4;"), 1);
        due("count(1)", x.count(1), 0);
        due("count(2)", x.count(2), 0);
        due("way(-1)", x.way(-1), NONE);
        due("way(0)", x.way(0), NONE);
        due("treeTo(1)", x.treeTo(1), NONE);
        due("parts(0)", x.parts(0), NONE);
        due("partsOf(0)", x.partsOf(0), NONE);
        due("ran(0)", x.ran(0), NONE);
        due("ran(10)", x.ran(10), NONE);
        due("judged(2) stays", x.judged(2), 1);
        due("see: the latest step is 0", x.see(0, 0, 0), 0);

        CustomValley y = Due.of("people 5;habits 3;worth 0 0 9;meets 3 4;answer most;stays;keeps 1 2;slip 2 3;");
        due("rests() of that", y.rests(), 27);
        due("valley(): all is as untold again", Due.read(y, ""), 0);
        due("told(2)", y.told(2), 15);
        due("told(3)", y.told(3), 0);
        due("told(4)", y.told(4), 0);
        due("told(5)", y.told(5), 16);
        due("told(20)", y.told(20), 14);
        due("told(40)", y.told(40), 1);
        due("rests()", y.rests(), 2);
        due("winners()", y.winners(), 3);
    }

    private static void faultOf(CustomValley x, String text, int kind, int place) {
        due("valley() of " + text, Due.read(x, text) == NONE ? NONE : 0, kind == 0 ? 0 : NONE);
        due("fault(0) of " + text, x.fault(0), kind);
        due("fault(1) of " + text, x.fault(1), place);
    }

    private static void fault() {
        promise = 5;
        CustomValley x = new CustomValley();
        faultOf(x, "people", 1, 6);
        due("fault(2)", x.fault(2), NONE);
        due("fault(-1)", x.fault(-1), NONE);
        faultOf(x, "", 0, NONE);
        faultOf(x, "people  ", 1, 8);
        faultOf(x, "people 3", 1, 8);
        faultOf(x, "people 3 \n", 1, 10);
        faultOf(x, "stays", 1, 5);
        faultOf(x, ";", 1, 0);
        faultOf(x, "  3;", 1, 2);
        faultOf(x, "people 3;;", 1, 9);
        faultOf(x, "people 3.", 1, 8);
        faultOf(x, "people\t3;", 1, 6);
        faultOf(x, "people\n3\n;\n", 0, NONE);
        faultOf(x, "people3;habits2;", 0, NONE);
        faultOf(x, "people 3 4;", 1, 9);
        faultOf(x, "People 3;", 1, 0);
        faultOf(x, "peoples 3;", 1, 0);
        faultOf(x, "peopl 3;", 1, 0);
        faultOf(x, "stays;abcdefghi;", 1, 6);
        faultOf(x, "people 00003;", 1, 7);
        faultOf(x, "people 0003;", 0, NONE);
        faultOf(x, "people -3;", 1, 7);
        faultOf(x, "people \u00e9;", 1, 7);
        faultOf(x, "people habits;", 1, 7);
        faultOf(x, "answer worst;", 1, 7);
        faultOf(x, "answer;", 1, 6);
        faultOf(x, "answerbest;", 1, 0);
        faultOf(x, "answer best4;", 1, 11);
        faultOf(x, "stays 1;", 1, 6);
        faultOf(x, "meets;", 1, 5);
        faultOf(x, "meets 0;", 1, 7);
        faultOf(x, "meets 0 1 2;", 1, 11);
        faultOf(x, "worth 0 0;", 1, 9);
        faultOf(x, "keeps 0;", 1, 7);
        faultOf(x, "slip 0;", 1, 6);
        ranges(x);
        twices(x);
        lates(x);
    }

    private static void ranges(CustomValley x) {
        faultOf(x, "people 1;", 2, 7);
        faultOf(x, "people 2;", 0, NONE);
        faultOf(x, "people 10;", 0, NONE);
        faultOf(x, "people 11;", 2, 7);
        faultOf(x, "people 9999;", 2, 7);
        faultOf(x, "habits 1;", 2, 7);
        faultOf(x, "habits 4;", 0, NONE);
        faultOf(x, "habits 5;", 2, 7);
        faultOf(x, "habits 4;people 5;", 0, NONE);
        faultOf(x, "habits 4;people 6;", 2, 16);
        faultOf(x, "people 6;habits 3;", 0, NONE);
        faultOf(x, "people 7;habits 3;", 2, 16);
        faultOf(x, "people 5;habits 4;", 0, NONE);
        faultOf(x, "people 10;habits 4;", 2, 17);
        faultOf(x, "worth 2 0 1;", 2, 6);
        faultOf(x, "worth 0 2 1;", 2, 8);
        faultOf(x, "worth 0 0 100;", 2, 10);
        faultOf(x, "worth 0 0 99;worth 1 1 0;", 0, NONE);
        faultOf(x, "habits 3;worth 2 2 1;", 0, NONE);
        faultOf(x, "meets 4 0;", 2, 6);
        faultOf(x, "meets 0 4;", 2, 8);
        faultOf(x, "meets 0 1 4 4;", 2, 10);
        faultOf(x, "people 5;meets 0 4;", 0, NONE);
        faultOf(x, "keeps 4 0;", 2, 6);
        faultOf(x, "keeps 0 2;", 2, 8);
        faultOf(x, "slip 2 1;", 2, 5);
        faultOf(x, "slip 0 0;", 2, 7);
        faultOf(x, "slip 0 4;", 2, 7);
        faultOf(x, "slip 0 3;slip 1 1;", 0, NONE);
    }

    private static void twices(CustomValley x) {
        faultOf(x, "people 3;people 3;", 3, 9);
        faultOf(x, "habits 2;stays;habits 3;", 3, 15);
        faultOf(x, "answer best;answer worst;", 3, 12);
        faultOf(x, "stays;stays;", 3, 6);
        faultOf(x, "worth 0 1 5;worth 0 1 5;", 3, 20);
        faultOf(x, "worth 0 1 5;worth 1 0 5;", 0, NONE);
        faultOf(x, "meets 0 0;", 3, 8);
        faultOf(x, "meets 0 1 1 0;", 3, 12);
        faultOf(x, "meets 0 1;meets 0 1;", 3, 18);
        faultOf(x, "meets 0 1;meets 2 3 1 2;", 0, NONE);
        faultOf(x, "keeps 0 0;keeps 0 1;", 3, 16);
        faultOf(x, "keeps 0 0;keeps 1 0;", 0, NONE);
        faultOf(x, "slip 0 1;slip 0 9;", 3, 14);
        faultOf(x, "people 3;slip 0 1;people 3;", 3, 18);
    }

    private static void lates(CustomValley x) {
        faultOf(x, "slip 0 1;people 3;", 4, 9);
        faultOf(x, "worth 0 0 1;habits 2;", 4, 12);
        faultOf(x, "meets 0 1;people 4;", 4, 10);
        faultOf(x, "keeps 0 0; habits 99;", 4, 11);
        faultOf(x, "people 3;slip 0 1;habits 2;", 4, 18);
        faultOf(x, "stays;people 3;answer best;habits 3;", 0, NONE);
    }

    private static void told() {
        promise = 6;
        CustomValley x = Due.of("habits 3;people 3;worth 0 1 7;worth 2 1 99;meets 0 1;meets 2 1;answer copy;stays;"
                + "keeps 1 2;slip 2 3;");
        int[] told = {3, 3, 5, 2, 1, 9};
        for (int i = 0; i < told.length; i++) {
            due("told(" + i + ")", x.told(i), told[i]);
        }
        due("told(6)", x.told(6), NONE);
        due("told(9)", x.told(9), NONE);
        int[] slips = {1, 1, 3, NONE, NONE};
        for (int i = 0; i < slips.length; i++) {
            due("told(10 + " + i + ")", x.told(10 + i), slips[i]);
        }
        int[] meets = {2, 5, 2, NONE};
        int[] keeps = {NONE, 2, NONE, NONE};
        for (int p = 0; p < 4; p++) {
            due("told(20 + " + p + ")", x.told(20 + p), meets[p]);
            due("told(60 + " + p + ")", x.told(60 + p), keeps[p]);
        }
        int[] gets = {1, 7, 0, NONE, 0, 1, 0, NONE, 0, 99, 1, NONE, NONE, NONE, NONE, NONE, NONE, NONE};
        for (int i = 0; i < gets.length; i++) {
            due("told(40 + " + i + ")", x.told(40 + i), gets[i]);
        }
        for (int what : new int[] {LOW, -1, 19, 30, 39, 56, 59, 70, 1000, HIGH}) {
            due("told(" + what + ")", x.told(what), NONE);
        }
        due("told(3) of most", Due.of("answer most;").told(3), 1);
        CustomValley y = Due.of("people 10;meets 9 8;");
        due("told(29)", y.told(29), 256);
        due("told(28)", y.told(28), 512);
        due("told(20): meets none", y.told(20), 0);
        due("told(5)", y.told(5), 1024);
    }

    private static void habitWorth() {
        promise = 7;
        CustomValley x = Due.of("habits 3;people 3;worth 0 1 7;worth 2 1 9;worth 2 2 4;keeps 1 2;");
        // STATE 23 is 2 + 3 * (1 + 3 * 2): no state, as person 1 keeps 2; 25 is 1 + 3 * (2 + 3 * 2)
        due("habit(25, 0)", x.habit(25, 0), 1);
        due("habit(25, 1)", x.habit(25, 1), 2);
        due("habit(25, 2)", x.habit(25, 2), 2);
        due("habit(23, 0)", x.habit(23, 0), RANGE);
        due("habit(25, 3)", x.habit(25, 3), RANGE);
        due("habit(25, -1)", x.habit(25, -1), RANGE);
        due("habit(27, 0)", x.habit(27, 0), RANGE);
        due("habit(-1, 0)", x.habit(-1, 0), RANGE);
        promise = 8;
        due("worth(25, 0)", x.worth(25, 0), 0);
        due("worth(25, 1)", x.worth(25, 1), 13);
        due("worth(24, 0)", x.worth(24, 0), 0);
        due("worth(26, 2)", x.worth(26, 2), 8);
        due("worth(23, 0)", x.worth(23, 0), RANGE);
        due("worth(25, 3)", x.worth(25, 3), RANGE);
        due("worth(27, 0)", x.worth(27, 0), RANGE);
        CustomValley y = Due.of("people 3;meets 0 1;worth 0 1 3;worth 1 0 8;");
        due("worth(2, 0)", y.worth(2, 0), 3);
        due("worth(2, 1)", y.worth(2, 1), 8);
        due("worth(2, 2): meets none", y.worth(2, 2), 0);
    }

    private static void answers() {
        promise = 9;
        CustomValley best = Due.of("people 3;worth 0 0 2;worth 0 1 1;worth 1 0 1;worth 1 1 2;keeps 2 1;");
        due("answers(4, 0): a tie", best.answers(4, 0), 3);
        due("answers(6, 0)", best.answers(6, 0), 2);
        due("answers(6, 2): keeps", best.answers(6, 2), 2);
        due("answers(0, 0)", best.answers(0, 0), RANGE);
        due("answers(4, 3)", best.answers(4, 3), RANGE);
        due("answers(4, -1)", best.answers(4, -1), RANGE);
        due("answers(8, 0)", best.answers(8, 0), RANGE);
        CustomValley stays = Due.of("people 3;worth 0 0 2;worth 0 1 1;worth 1 0 1;worth 1 1 2;stays;");
        due("answers(4, 0): her own alone", stays.answers(4, 0), 1);
        due("answers(5, 0): her own alone", stays.answers(5, 0), 2);
        due("answers(7, 0)", stays.answers(7, 0), 2);
        due("answers(6, 0): not her own", stays.answers(6, 0), 2);
        CustomValley most = Due.of("people 5;habits 3;answer most;meets 0 1 0 2 0 3;worth 1 1 99;");
        // persons 1, 2, 3 have 2, 2, 1
        due("answers: most", most.answers(3 * 2 + 9 * 2 + 27, 0), 4);
        due("answers: three alike", most.answers(3 * 2 + 27, 0), 7);
        due("answers: meets none", most.answers(0, 4), 7);
        CustomValley copy = Due.of("people 3;answer copy;meets 0 1 1 2;worth 0 0 1;worth 0 1 5;worth 1 0 2;worth 1 1 3;");
        // 0 1 1: worths 5, 2 + 3, 3; so 1 sees herself and 0 as the greatest
        due("answers(6, 1): two customs copied", copy.answers(6, 1), 3);
        due("answers(6, 2)", copy.answers(6, 2), 2);
        due("answers(6, 0)", copy.answers(6, 0), 3);
        // 1 0 0: worths 2, 5 + 1, 1
        due("answers(1, 0)", copy.answers(1, 0), 1);
        due("answers: copies herself if she meets none", Due.of("people 3;answer copy;meets 0 1;").answers(4, 2), 2);
        due("answers: best, meets none", Due.of("people 3;habits 3;meets 0 1;").answers(0, 2), 7);
    }

    private static void move() {
        promise = 10;
        CustomValley x = Due.of("people 3;habits 3;keeps 1 2;");
        due("move(6, 0, 2)", x.move(6, 0, 2), 8);
        due("move(6, 0, 0): her own", x.move(6, 0, 0), 6);
        due("move(8, 2, 1)", x.move(8, 2, 1), 17);
        due("move(6, 1, 0)", x.move(6, 1, 0), NONE);
        due("move(6, 1, 2)", x.move(6, 1, 2), NONE);
        due("move(5, 0, 0)", x.move(5, 0, 0), RANGE);
        due("move(27, 0, 0)", x.move(27, 0, 0), RANGE);
        due("move(-1, 0, 0)", x.move(-1, 0, 0), RANGE);
        due("move(6, 3, 0)", x.move(6, 3, 0), RANGE);
        due("move(6, -1, 0)", x.move(6, -1, 0), RANGE);
        due("move(6, 0, 3)", x.move(6, 0, 3), RANGE);
        due("move(6, 0, -1)", x.move(6, 0, -1), RANGE);
        due("move(6, 1, 3)", x.move(6, 1, 3), RANGE);
    }

    private static void rests() {
        promise = 11;
        due("rests()", new CustomValley().rests(), 2);
        due("rests() of rings", Due.of(RINGS).rests(), 2);
        due("rests() of three", Due.of(THREE).rests(), 3);
        due("rests() of sixteen", Due.of(SIXTEEN).rests(), 16);
        due("rests(): one ring of all", Due.of("people 2;worth 0 0 0;worth 1 1 0;").rests(), 1);
        due("rests(): all stay", Due.of("people 10;worth 0 0 0;worth 1 1 0;stays;").rests(), 1024);
        due("rests(): all keep", Due.of("people 2;keeps 0 0;keeps 1 1;").rests(), 1);
        promise = 12;
        CustomValley x = Due.of(RINGS);
        int[][] want = {{0, 2, 2, 0, 4}, {3, 2, 2, 3, 7}};
        for (int k = 0; k < 2; k++) {
            for (int what = 0; what < 3; what++) {
                due("rest(" + k + ", " + what + ")", x.rest(k, what), want[k][what]);
            }
            due("rest(" + k + ", 10)", x.rest(k, 10), want[k][3]);
            due("rest(" + k + ", 11)", x.rest(k, 11), want[k][4]);
            for (int what : new int[] {LOW, -1, 3, 9, 12, 1034, HIGH}) {
                due("rest(" + k + ", " + what + ")", x.rest(k, what), NONE);
            }
        }
        due("rest(2, 0)", x.rest(2, 0), NONE);
        due("rest(-1, 0)", x.rest(-1, 0), NONE);
        CustomValley y = new CustomValley();
        due("rest(0, 2)", y.rest(0, 2), 5);
        due("rest(1, 0)", y.rest(1, 0), 15);
        CustomValley all = Due.of("people 10;worth 0 0 0;worth 1 1 0;");
        due("rest(0, 1)", all.rest(0, 1), 1024);
        due("rest(0, 10 + 1023)", all.rest(0, 1033), 1023);
        due("rest(0, 10 + 1024)", all.rest(0, 1034), NONE);
    }

    private static void restOfComes() {
        promise = 13;
        CustomValley x = Due.of(RINGS);
        int[] home = {0, NONE, NONE, 1, 0, NONE, NONE, 1};
        for (int s = 0; s < 8; s++) {
            due("restOf(" + s + ")", x.restOf(s), home[s]);
        }
        due("restOf(8)", x.restOf(8), RANGE);
        due("restOf(-1)", x.restOf(-1), RANGE);
        due("restOf: no state", Due.of("keeps 0 1;").restOf(0), RANGE);
        promise = 14;
        int[] comes = {1, 3, 3, 2, 1, 3, 3, 2};
        for (int s = 0; s < 8; s++) {
            due("comes(" + s + ", 0)", x.comes(s, 0), comes[s] & 1);
            due("comes(" + s + ", 1)", x.comes(s, 1), comes[s] >> 1);
        }
        due("comes(8, 0)", x.comes(8, 0), RANGE);
        due("comes(-1, 0)", x.comes(-1, 0), RANGE);
        due("comes(0, 2)", x.comes(0, 2), RANGE);
        due("comes(0, -1)", x.comes(0, -1), RANGE);
    }

    private static void fewestWay() {
        promise = 15;
        CustomValley x = Due.of(DEAR);
        due("fewest(0, 15)", x.fewest(0, 15), 6);
        promise = 16;
        wayIs(x, 0, 1, 3, 7, 15);
        promise = 15;
        due("fewest(15, 0)", x.fewest(15, 0), 2);
        promise = 16;
        wayIs(x, 15, 7, 3, 1, 0);
        due("way(HIGH)", x.way(HIGH), NONE);
        due("way(-2)", x.way(-2), NONE);
        due("way(LOW)", x.way(LOW), NONE);
        promise = 15;
        due("fewest(3, 3)", x.fewest(3, 3), 0);
        due("fewest(16, 0)", x.fewest(16, 0), RANGE);
        due("fewest(0, 16)", x.fewest(0, 16), RANGE);
        due("fewest(-1, 0)", x.fewest(-1, 0), RANGE);
        promise = 16;
        wayIs(x, 3);
        promise = 15;
        CustomValley y = Due.of("people 3;habits 3;keeps 1 2;");
        due("fewest(6, 5): no state", y.fewest(6, 5), RANGE);
        due("fewest(6, 6)", y.fewest(6, 6), 0);
        due("fewest: all keep", Due.of("people 2;keeps 0 0;keeps 1 1;").fewest(2, 2), 0);
        // fewer slips go ahead of fewer moves: straight from 2 to 1 would be two slips
        CustomValley z = Due.of("people 2;habits 3;slip 1 2;");
        due("fewest(8, 4)", z.fewest(8, 4), 2);
        promise = 16;
        wayIs(z, 8, 5, 4);
        // the least of the ways goes on without cost first, where a slip at once would do as well
        CustomValley w = Due.of("people 5;meets 1 0 2 1 3 0 3 1 3 2 4 0 4 1 4 2 4 3;answer most;");
        due("fewest(28, 10)", w.fewest(28, 10), 1);
        wayIs(w, 28, 12, 8, 10);
        CustomValley dearest = Due.of("people 10;stays;worth 0 0 0;worth 1 1 0;slip 0 3;slip 1 3;");
        due("fewest(0, 1023)", dearest.fewest(0, 1023), 30);
        wayIs(dearest, 0, 1, 3, 7, 15, 31, 63, 127, 255, 511, 1023);
        due("coradius(5)", dearest.coradius(5), 30);
        due("between(1023, 0)", dearest.between(1023, 0), 30);
        due("between does not touch the way", z.between(0, 1), 2);
        due("tree does not touch the way", z.tree(0), 2);
        z.see(0, 0, 0);
        z.see(0, 1, 8);
        due("explained does not touch the way", z.explained(0, 0), 1);
        wayIs(z, 8, 5, 4);
    }

    private static void wayIs(CustomValley x, int... states) {
        due("way(-1)", x.way(-1), states.length - 1);
        for (int i = 0; i < states.length; i++) {
            due("way(" + i + ")", x.way(i), states[i]);
        }
        due("way beyond", x.way(states.length), NONE);
    }

    private static void between() {
        promise = 17;
        CustomValley x = Due.of(DEAR);
        due("between(0, 1)", x.between(0, 1), 6);
        due("between(1, 0)", x.between(1, 0), 2);
        due("between(1, 1)", x.between(1, 1), 0);
        due("between(0, 2)", x.between(0, 2), RANGE);
        due("between(2, 0)", x.between(2, 0), RANGE);
        due("between(-1, 0)", x.between(-1, 0), RANGE);
        due("between(0, -1)", x.between(0, -1), RANGE);
        CustomValley rings = Due.of(RINGS);
        due("between(0, 1) of rings", rings.between(0, 1), 1);
        due("between(1, 0) of rings", rings.between(1, 0), 1);
        CustomValley many = Due.of(SIXTEEN);
        // 0 and 31: three who stay slip, and one of the two who meet
        due("between(0, 15) of sixteen", many.between(0, 15), 4);
    }

    private static void trees() {
        promise = 18;
        CustomValley x = Due.of(THREE);
        int[][] to = {{NONE, 0, 0}, {1, NONE, 0}, {1, 2, NONE}};
        for (int k = 0; k < 3; k++) {
            promise = 18;
            due("tree(" + k + ")", x.tree(k), 2);
            due("tree(3)", x.tree(3), RANGE);
            due("tree(-1)", x.tree(-1), RANGE);
            promise = 19;
            for (int i = 0; i < 3; i++) {
                due("treeTo(" + i + ") of " + k, x.treeTo(i), to[k][i]);
            }
            due("treeTo(3)", x.treeTo(3), NONE);
            due("treeTo(-1)", x.treeTo(-1), NONE);
            due("treeTo(HIGH)", x.treeTo(HIGH), NONE);
            x.winners();
            x.bound(0);
        }
        due("treeTo behind winners() and bound()", x.treeTo(0), 1);
        promise = 18;
        CustomValley dear = Due.of("people 2;habits 3;slip 1 2;slip 2 3;");
        int[] sums = {2, 3, 4};
        for (int k = 0; k < 3; k++) {
            due("tree(" + k + ") with dear slips", dear.tree(k), sums[k]);
        }
        CustomValley many = Due.of(SIXTEEN);
        due("tree(0) of sixteen", many.tree(0), FULL);
        due("tree(16) of sixteen", many.tree(16), RANGE);
        CustomValley twelve = Due.of(TWELVE);
        due("rests() of twelve", twelve.rests(), 12);
        due("tree(0) of twelve", twelve.tree(0), 11);
        due("treeTo(11) of twelve", twelve.treeTo(11) >= 0 ? 1 : 0, 1);
        due("tree(12) of twelve", twelve.tree(12), RANGE);
        due("rests() of thirteen", Due.of(THIRTEEN).rests(), 13);
        due("tree(0) of thirteen", Due.of(THIRTEEN).tree(0), FULL);
        promise = 19;
        due("treeTo(0) of sixteen", many.treeTo(0), NONE);
        promise = 18;
        due("tree(0) of one", Due.of("people 2;keeps 0 0;").tree(0), 0);
        CustomValley eight = Due.of("people 4;meets 0 1;stays;");
        due("tree(7) of eight", eight.tree(7), 7);
    }

    private static void winners() {
        promise = 20;
        due("winners()", new CustomValley().winners(), 3);
        due("winners(), dear slips", Due.of(DEAR).winners(), 1);
        due("winners() of three", Due.of(THREE).winners(), 7);
        due("winners() of three, one dear", Due.of("people 2;habits 3;slip 0 2;").winners(), 6);
        due("winners() of sixteen", Due.of(SIXTEEN).winners(), FULL);
        due("winners() of twelve", Due.of(TWELVE).winners(), 1);
        due("winners() of thirteen", Due.of(THIRTEEN).winners(), FULL);
        due("winners() of one", Due.of("people 2;keeps 0 1;").winners(), 1);
        // the stag is better, but the hare needs fewer slips
        due("winners(): stag and hare",
                Due.of("people 4;worth 0 0 2;worth 0 1 2;worth 1 0 0;worth 1 1 3;").winners(), 1);
    }

    private static void radius() {
        promise = 21;
        CustomValley x = Due.of(DEAR);
        due("radius(0)", x.radius(0), 6);
        due("radius(1)", x.radius(1), 2);
        due("radius(2)", x.radius(2), RANGE);
        due("radius(-1)", x.radius(-1), RANGE);
        due("radius(0) of one", Due.of("people 2;keeps 0 0;").radius(0), NONE);
        due("radius(1) of rings", Due.of(RINGS).radius(1), 1);
        due("radius(9) of sixteen", Due.of(SIXTEEN).radius(9), 1);
        promise = 22;
        due("coradius(0)", x.coradius(0), 2);
        due("coradius(1)", x.coradius(1), 6);
        due("coradius(2)", x.coradius(2), RANGE);
        due("coradius(-1)", x.coradius(-1), RANGE);
        due("coradius(0) of one", Due.of("people 2;keeps 0 0;").coradius(0), 0);
        due("coradius(0) of sixteen", Due.of(SIXTEEN).coradius(0), 4);
        promise = 23;
        due("shortly()", x.shortly(), 0);
        due("shortly(), the other one", Due.of("slip 0 2;").shortly(), 1);
        due("shortly(): alike", new CustomValley().shortly(), NONE);
        due("shortly() of one", Due.of("people 2;keeps 0 0;").shortly(), 0);
        due("shortly() of three", Due.of(THREE).shortly(), NONE);
        due("shortly() of sixteen", Due.of(SIXTEEN).shortly(), NONE);
    }

    private static void carried() {
        promise = 24;
        CustomValley x = new CustomValley();
        due("carried(1, 0)", x.carried(1, 0), 7);
        due("carried(0, 1)", x.carried(0, 1), 7);
        due("carried(1, 1)", x.carried(1, 1), 0);
        due("carried(2, 0)", x.carried(2, 0), RANGE);
        due("carried(0, 2)", x.carried(0, 2), RANGE);
        due("carried(-1, 0)", x.carried(-1, 0), RANGE);
        due("carried(0, -1)", x.carried(0, -1), RANGE);
        due("carried: a ring", Due.of(RINGS).carried(1, 0), NONE);
        due("carried: no rest", Due.of("worth 0 0 0;worth 0 1 0;worth 1 0 1;").carried(0, 1), NONE);
        due("carried: one who keeps helps", Due.of("keeps 0 1;").carried(1, 0), 6);
        due("carried: those in the way", Due.of("keeps 0 0;").carried(1, 0), 14);
        due("carried: the least set", Due.of("people 4;meets 0 1 2 3;").carried(1, 0), 15);
        due("carried: nobody is free", Due.of("people 2;keeps 0 0;keeps 1 1;").carried(1, 0), 0);
        due("carried: a line", Due.of("people 3;meets 0 1 1 2;").carried(1, 0), 7);
        // two who meet carry it on, if it pays so much more; of such pairs the least
        due("carried by two", Due.of("people 4;meets 0 1 1 2 2 3;worth 1 1 9;").carried(1, 0), 3);
    }

    private static void bound() {
        promise = 25;
        CustomValley x = new CustomValley();
        due("bound(1)", x.bound(1), 1);
        due("bound(0)", x.bound(0), 1);
        due("bound(2)", x.bound(2), RANGE);
        due("bound(-1)", x.bound(-1), RANGE);
        due("bound(0), it wins anyway", Due.of(DEAR).bound(0), 0);
        due("bound(1), dear slips", Due.of(DEAR).bound(1), 3);
        due("bound(1) of rings", Due.of(RINGS).bound(1), 5);
        due("bound(1) of seven people", Due.of("people 7;").bound(1), FULL);
        due("bound(2) of seven people", Due.of("people 7;").bound(2), RANGE);
        due("bound(1) of six people", Due.of("people 6;").bound(1), 1);
        due("bound(0), nobody is free", Due.of("people 2;keeps 0 1;keeps 1 1;").bound(0), 0);
        due("bound(0) of twelve", Due.of(TWELVE).bound(0), 0);
        due("bound(1) of sixteen", Due.of(SIXTEEN).bound(1), 29);
        due("bound(0) by all", Due.of("people 3;answer most;stays;keeps 1 1;meets 0 1 1 2;").bound(0), 5);
        due("told(2) is as it was", x.told(2), 15);
        due("rests() as they were", x.rests(), 2);
    }

    private static void gift() {
        promise = 26;
        CustomValley x = new CustomValley();
        due("gift(1)", x.gift(1), 1);
        due("gift(0)", x.gift(0), 1);
        due("gift(2)", x.gift(2), RANGE);
        due("gift(-1)", x.gift(-1), RANGE);
        due("gift(0), it wins anyway", Due.of(DEAR).gift(0), 0);
        due("gift(1): worth is nothing to most", Due.of("answer most;").gift(1), NONE);
        due("gift(1) of rings", Due.of(RINGS).gift(1), NONE);
        due("gift(1) of seven people", Due.of("people 7;").gift(1), FULL);
        due("gift(2) of seven people", Due.of("people 7;").gift(2), RANGE);
        due("gift(1) of six people", Due.of("people 6;").gift(1), 1);
        due("gift(0) of twelve", Due.of(TWELVE).gift(0), 0);
        due("gift(0), nobody is free", Due.of("people 2;keeps 0 1;keeps 1 1;").gift(0), 0);
        due("gift(1) of sixteen", Due.of(SIXTEEN).gift(1), NONE);
        // below 50 each is one slip away from the other; with 50 nobody needs a slip to leave 0
        due("gift(1), a great one", Due.of("people 2;worth 0 0 50;worth 1 1 0;").gift(1), 50);
        due("gift(1), too great a one", Due.of("people 2;worth 0 0 99;worth 0 1 99;worth 1 1 0;").gift(1), NONE);
        due("gift(1), the greatest", Due.of("people 2;worth 0 0 98;worth 0 1 98;worth 1 1 0;").gift(1), 99);
        due("told(45) is as it was", x.told(45), 1);
        due("winners() as they were", x.winners(), 3);
    }

    private static void flow() {
        promise = 27;
        CustomValley x = new CustomValley();
        for (int wrong : WRONG) {
            due("flow(" + wrong + ", 1, 2)", x.flow(wrong, 1, 2), RANGE);
        }
        due("flow(0, -1, 2)", x.flow(0, -1, 2), RANGE);
        due("flow(0, 401, 2)", x.flow(0, 401, 2), RANGE);
        due("flow(0, 1, 1)", x.flow(0, 1, 1), RANGE);
        due("flow(0, 1, 1001)", x.flow(0, 1, 1001), RANGE);
        due("flow(0, 1, 0)", x.flow(0, 1, 0), RANGE);
        due("flow(0, 400, 1000)", x.flow(0, 400, 1000), 1);
        due("flow(0, 0, 2)", x.flow(0, 0, 2), 1);
        due("flow(1, 1, 2)", x.flow(1, 1, 2), 1);
        promise = 28;
        int[] parts = {187500000, 625000000, 0, 62500000, 0, 62500000, 0, 0, 0, 62500000};
        for (int s = 0; s < parts.length; s++) {
            due("parts(" + s + ")", x.parts(s), parts[s]);
        }
        due("parts(16)", x.parts(16), NONE);
        due("parts(-1)", x.parts(-1), NONE);
        x.flow(0, 1, 1);
        due("parts(1) stays", x.parts(1), 625000000);
        CustomValley three = Due.of(THREE);
        three.flow(0, 1, 7);
        int[] cut = {904761908, 23809523, 23809523, 23809523, 0, 0, 23809523, 0, 0};
        for (int s = 0; s < cut.length; s++) {
            due("parts(" + s + ") with cuts", three.parts(s), cut[s]);
        }
        CustomValley ties = Due.of("people 2;worth 0 0 0;worth 1 1 0;slip 1 3;");
        ties.flow(0, 1, 3);
        // 500000000, of these 166666666 slip, 83333333 each; of 333333334 each answer has 166666667
        due("parts(1) of ties", ties.parts(1), 250000000);
        due("parts(2) of ties", ties.parts(2), 250000000);
        due("parts(0) of ties", ties.parts(0), 500000000);
        CustomValley nobody = Due.of("people 2;keeps 0 0;keeps 1 1;");
        due("flow(2, 400, 2): nobody is free", nobody.flow(2, 400, 2), 1);
        due("parts(2): nobody is free", nobody.parts(2), 1000000000);
        due("parts(0): no state", nobody.parts(0), NONE);
        promise = 29;
        due("partsOf(0): nobody is free", nobody.partsOf(0), 1000000000);
        due("partsOf(1): nobody is free", nobody.partsOf(1), NONE);
        due("partsOf(0)", x.partsOf(0), 187500000);
        due("partsOf(1)", x.partsOf(1), 0);
        due("partsOf(2)", x.partsOf(2), NONE);
        due("partsOf(-1)", x.partsOf(-1), NONE);
        due("partsOf(0) of a ring", ties.partsOf(0), 1000000000);
    }

    private static void run() {
        promise = 30;
        CustomValley x = new CustomValley();
        due("run(0, 1, 1, 2)", x.run(0, 1, 1, 2), 4);
        due("run(0, 1, 1, 3): no slip", x.run(0, 1, 1, 3), 0);
        promise = 31;
        due("ran(0)", x.ran(0), 0);
        due("ran(1)", x.ran(1), 0);
        due("ran(2)", x.ran(2), 1);
        due("ran(12)", x.ran(12), 1);
        due("ran(10)", x.ran(10), 0);
        for (int what : new int[] {LOW, -1, 3, 9, 14, 20, HIGH}) {
            due("ran(" + what + ")", x.ran(what), NONE);
        }
        promise = 30;
        for (int wrong : WRONG) {
            due("run(" + wrong + ", 1, 1, 2)", x.run(wrong, 1, 1, 2), RANGE);
        }
        due("run(0, -1, 1, 2)", x.run(0, -1, 1, 2), RANGE);
        due("run(0, 1, 0, 2)", x.run(0, 1, 0, 2), RANGE);
        due("run(0, 1, 5001, 2)", x.run(0, 1, 5001, 2), RANGE);
        due("run(0, 1, 1, 1)", x.run(0, 1, 1, 1), RANGE);
        due("run(0, 1, 1, 1001)", x.run(0, 1, 1, 1001), RANGE);
        promise = 31;
        due("ran(2) stays", x.ran(2), 1);
        promise = 30;
        NaiveValley v = new NaiveValley();
        v.meetAll();
        v.solve();
        due("run(0, 0, 9, 2)", x.run(0, 0, 9, 2), v.run(0, 0, 9, 2)[0]);
        int[] told = v.run(5, HIGH, 5000, 1000);
        due("run(5, HIGH, 5000, 1000)", x.run(5, HIGH, 5000, 1000), told[0]);
        promise = 31;
        for (int what = 0; what < 3; what++) {
            due("ran(" + what + ")", x.ran(what), told[1 + what]);
        }
        int sum = 0;
        for (int p = 0; p < 4; p++) {
            due("ran(10 + " + p + ")", x.ran(10 + p), told[4 + p]);
            sum += x.ran(10 + p);
        }
        due("all moves", sum, 5000);
        CustomValley dear = Due.of("slip 1 3;");
        dear.run(0, 1, 1, 2);
        due("ran(0), dear", dear.ran(0), 1);
        due("ran(1), dear", dear.ran(1), 3);
        // person 2's own habit 1 is drawn by a slip where she would answer 0: it is a slip all the same
        CustomValley own = new CustomValley();
        due("run(4, 1, 1, 2)", own.run(4, 1, 1, 2), 4);
        due("ran(0) to her own", own.ran(0), 1);
        // from 15 the drawn habit 1 is her answer: no slip
        due("run(15, 1, 1, 2)", own.run(15, 1, 1, 2), 15);
        due("ran(0) to an answer", own.ran(0), 0);
        promise = 30;
        CustomValley nobody = Due.of("people 2;keeps 0 0;keeps 1 1;");
        due("run(2, 1, 1, 2): nobody is free", nobody.run(2, 1, 1, 2), STATE);
        due("run(2, 1, 1, 1): nobody is free", nobody.run(2, 1, 1, 1), RANGE);
        due("run(0, 1, 1, 2): no state", nobody.run(0, 1, 1, 2), RANGE);
        due("ran(0): none was", nobody.ran(0), NONE);
        CustomValley keeps = Due.of("keeps 0 0;keeps 1 0;");
        // 16838 modulo 2 is 0: the first who is free is person 2
        due("run(0, 1, 1, 2): of those who are free", keeps.run(0, 1, 1, 2), 4);
    }

    private static int judgeText(CustomValley x, String text, int s) {
        Due.put(x, text);
        return x.judge(s);
    }

    private static void judged(CustomValley x, int slips, int cost, int end, int all) {
        promise = 33;
        due("judged(0)", x.judged(0), slips);
        due("judged(1)", x.judged(1), cost);
        due("judged(2)", x.judged(2), end);
        due("judged(3)", x.judged(3), all);
        promise = 32;
    }

    private static void judge() {
        promise = 32;
        CustomValley x = Due.of("people 4;slip 1 3;slip 0 2;keeps 3 0;");
        due("judge(0) of nothing", judgeText(x, "", 0), 0);
        judged(x, 0, 0, 0, 1);
        due("judge(0)", judgeText(x, "0111", 0), 2);
        judged(x, 2, 6, 3, 1);
        due("judge(7)", judgeText(x, "0010", 7), 2);
        judged(x, 1, 2, 4, 1);
        due("judge: her own habit is a slip too", judgeText(x, "01", 1), 1);
        judged(x, 1, 3, 1, 1);
        due("judge: the second is none", judgeText(x, "014111", 0), 1);
        judged(x, 1, 3, 1, 0);
        due("judge: not free", judgeText(x, "0130", 0), 1);
        judged(x, 1, 3, 1, 0);
        due("judge: no such habit", judgeText(x, "02", 0), 0);
        judged(x, 0, 0, 0, 0);
        due("judge: low bytes", judgeText(x, "/0", 0), 0);
        due("judge: low bytes", judgeText(x, "0/", 0), 0);
        due("judge: high bytes", judgeText(x, "\u00ff0", 0), 0);
        due("judge: zeros", judgeText(x, "\0\0", 0), 0);
        judgeText(x, "11", 0);
        due("judge: an odd number", judgeText(x, "011", 0), NONE);
        due("count(3)", x.count(3), 0);
        judged(x, 1, 3, 2, 1);
        due("judge(8): no state", judgeText(x, "01", 8), RANGE);
        due("count(3)", x.count(3), 0);
        due("judge(16)", judgeText(x, "01", 16), RANGE);
        due("judge(-1)", judgeText(x, "0", -1), RANGE);
        judged(x, 1, 3, 2, 1);
        due("judge of 60", judgeText(x, "00".repeat(60), 0), 60);
        judged(x, 0, 0, 0, 1);
        due("judge of 61", judgeText(x, "00".repeat(61), 0), NONE);
        promise = 33;
        for (int what : new int[] {LOW, -1, 4, HIGH}) {
            due("judged(" + what + ")", x.judged(what), NONE);
        }
    }

    private static void see() {
        promise = 34;
        CustomValley x = new CustomValley();
        due("see(-1, 0, 0)", x.see(-1, 0, 0), RANGE);
        due("see(1000, 0, 0)", x.see(1000, 0, 0), RANGE);
        due("see(0, -1, 0)", x.see(0, -1, 0), RANGE);
        due("see(0, 1000, 0)", x.see(0, 1000, 0), RANGE);
        due("see(0, 0, 16)", x.see(0, 0, 16), RANGE);
        due("see(0, 0, -1)", x.see(0, 0, -1), RANGE);
        due("count(1)", x.count(1), 0);
        due("see(5, 0, 0)", x.see(5, 0, 0), 0);
        due("see(5, 0, 0) again", x.see(5, 0, 0), RANGE);
        due("see(4, 1, 0)", x.see(4, 1, 0), RANGE);
        due("see(5, 1, 0)", x.see(5, 1, 0), 1);
        due("see(6, 0, 0)", x.see(6, 0, 0), RANGE);
        due("see(5, 2, 0): what told RANGE is not the latest step", x.see(5, 2, 0), 2);
        for (int i = 3; i < 20; i++) {
            due("see", x.see(999, i, i % 16), i);
        }
        due("see: the 21st", x.see(999, 999, 0), FULL);
        due("see: the 21st, wrong", x.see(999, 19, 0), RANGE);
        due("count(1)", x.count(1), 20);
        due("see(999, 999, 0)", new CustomValley().see(999, 999, 0), 0);
    }

    private static void right() {
        promise = 35;
        CustomValley x = new CustomValley();
        due("right: none was seen", x.right(0, 0, 0), RANGE);
        x.see(3, 0, 0);
        x.see(4, 1, 0);
        due("right(3, 0, 1)", x.right(3, 0, 1), RANGE);
        due("right(1000, 0, 1)", x.right(1000, 0, 1), RANGE);
        due("right(4, 2, 1)", x.right(4, 2, 1), RANGE);
        due("right(4, -1, 1)", x.right(4, -1, 1), RANGE);
        due("right(4, 0, 16)", x.right(4, 0, 16), RANGE);
        due("right(4, 0, 1)", x.right(4, 0, 1), 1);
        due("right(4, 1, 2)", x.right(4, 1, 2), 1);
        due("right(6, 0, 3)", x.right(6, 0, 3), 2);
        due("right(5, 0, 3)", x.right(5, 0, 3), RANGE);
        due("see(5, 2, 0): telling has come to 6", x.see(5, 2, 0), RANGE);
        for (int i = 3; i < 20; i++) {
            due("right", x.right(6, 0, i % 16), i);
        }
        due("count(2)", x.count(2), 20);
        due("right: the 21st", x.right(6, 1, 0), FULL);
        due("right: the 21st, wrong", x.right(6, 2, 0), RANGE);
        due("see goes on", x.see(6, 2, 0), 2);
    }

    private static void explained() {
        promise = 36;
        CustomValley x = Due.of("people 3;worth 0 0 9;worth 0 1 9;worth 1 1 1;worth 1 0 0;");
        due("explained(0, 0) of none", x.explained(0, 0), 0);
        x.see(2, 10, 0);
        due("explained(999, 0) of one", x.explained(999, 0), 0);
        x.see(4, 20, 7);
        x.see(6, 30, 0);
        // best: 0 always pays, three slips to 7 and none back; most: one slip each way, and then all go on
        due("explained(6, 0)", x.explained(6, 0), 3);
        due("explained(6, 1)", x.explained(6, 1), 2);
        due("explained(4, 0)", x.explained(4, 0), 3);
        due("explained(3, 0)", x.explained(3, 0), 0);
        due("explained(0, 0)", x.explained(0, 0), 0);
        due("explained(6, 3)", x.explained(6, 3), RANGE);
        due("explained(6, -1)", x.explained(6, -1), RANGE);
        due("explained(-1, 0)", x.explained(-1, 0), RANGE);
        due("explained(1000, 0)", x.explained(1000, 0), RANGE);
        promise = 37;
        due("likeliest(6)", x.likeliest(6), 1);
        due("likeliest(3)", x.likeliest(3), 0);
        due("likeliest(999)", x.likeliest(999), 1);
        due("likeliest(-1)", x.likeliest(-1), RANGE);
        due("likeliest(1000)", x.likeliest(1000), RANGE);
        x.right(8, 1, 1);
        promise = 36;
        due("explained(7, 0)", x.explained(7, 0), 3);
        due("explained(8, 0)", x.explained(8, 0), 1);
        x.right(8, 1, 0);
        due("explained(8, 0), put right again", x.explained(8, 0), 0);
        promise = 37;
        due("likeliest(8): alike, the least", x.likeliest(8), 0);
        due("likeliest(7)", x.likeliest(7), 1);
        due("told(3) is as it was", x.told(3), 0);
        CustomValley stays = Due.of("people 3;meets 0 1;stays;slip 1 2;");
        stays.see(0, 0, 0);
        stays.see(0, 1, 4);
        promise = 36;
        due("explained: stays as told, slips as told", stays.explained(0, 0), 2);
        CustomValley goes = Due.of("people 3;meets 0 1;slip 1 2;");
        goes.see(0, 0, 0);
        goes.see(0, 1, 4);
        due("explained: without stays", goes.explained(0, 0), 0);
        due("explained: she copies herself", goes.explained(0, 2), 2);
    }

    private static void count() {
        promise = 38;
        CustomValley x = Due.of("people 3;stays;");
        x.see(0, 0, 0);
        x.see(0, 1, 0);
        x.see(0, 2, 0);
        x.right(0, 0, 1);
        x.feed(0, 0, 0, 0, 0);
        x.feed(0, 0, 0, 0, 0);
        int[] want = {2, 3, 1, 40};
        for (int what = 0; what < 4; what++) {
            due("count(" + what + ")", x.count(what), want[what]);
        }
        for (int what : new int[] {LOW, -1, 4, HIGH}) {
            due("count(" + what + ")", x.count(what), NONE);
        }
    }

    /** No call throws, whatever its numbers are. */
    private static void wildNumbers() {
        promise = 0;
        String[] texts = {"", "people 10;", "people 5;habits 4;answer copy;", SIXTEEN, "people 2;keeps 0 0;keeps 1 1;",
            "people 10;worth 0 0 0;worth 1 1 0;stays;", "people 10;meets 0 1;answer most;"};
        int[] wild = {LOW, LOW + 1, -1000, -10, -2, -1, 0, 1, 2, 9, 10, 11, 20, 69, 700, 1023, 1024, 10240, HIGH - 1, HIGH};
        for (String text : texts) {
            CustomValley x = Due.of(text);
            for (int a : wild) {
                x.end(a); x.fault(a); x.told(a); x.restOf(a); x.way(a); x.tree(a); x.treeTo(a); x.radius(a);
                x.coradius(a); x.bound(a); x.gift(a); x.parts(a); x.partsOf(a); x.ran(a); x.judge(a); x.judged(a);
                x.likeliest(a); x.count(a); x.feed(a, a, a, a, a); x.shortly(); x.winners();
                for (int b : wild) {
                    x.habit(a, b); x.worth(a, b); x.answers(a, b); x.rest(a, b); x.comes(a, b); x.fewest(a, b);
                    x.between(a, b); x.carried(a, b); x.explained(a, b); x.flow(a, b, 2); x.flow(0, a, b);
                    x.run(a, b, 2, 2); x.run(0, 0, a, b); x.move(a, b, 0); x.move(0, a, b); x.see(a, b, 0);
                    x.see(0, a, b); x.right(a, b, 0); x.right(0, a, b); x.move(b, 0, a);
                }
                x.valley();
            }
        }
    }
}
