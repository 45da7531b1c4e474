/** Promises 6 to 10: what was told of a valley, and its states. */
final class ValleyEdges extends Edge {
    /** Three persons, three habits; person 1 keeps 2: nine states, 6 to 8, 15 to 17 and 24 to 26. */
    private static final String KEEPER = "people 3;habits 3;worth 0 1 7;worth 2 1 9;worth 2 2 4;keeps 1 2;";
    private static final int[] NO_STATES = {LOW, -1, 0, 5, 9, 14, 18, 23, 27, 1023, 1024, HIGH};

    private ValleyEdges() {
    }

    // ---- promise 6

    static void p06PeopleAndHabits() {
        promise(6, "What 0: people, 1: HABITS");
        int[][] sizes = {{2, 2}, {2, 4}, {5, 4}, {6, 3}, {10, 2}};
        for (int[] size : sizes) {
            CustomValley x = Due.of("people " + size[0] + ";habits " + size[1] + ";");
            due("told(0)", x.told(0), size[0]);
            due("told(1)", x.told(1), size[1]);
        }
    }

    static void p06FreeAsBits() {
        promise(6, "2: FREE as bits");
        due("told(2), all", Due.of("people 10;").told(2), 1023);
        due("told(2), all but the last", Due.of("people 10;keeps 9 0;").told(2), 511);
        due("told(2), all but the first", Due.of("people 10;keeps 0 1;").told(2), 1022);
        due("told(2), none", Due.of("people 2;keeps 0 0;keeps 1 0;").told(2), 0);
    }

    static void p06FreeAreThoseWhoKeepNone() {
        term(6, "FREE are those who keep none.");
        due("told(2)", Due.of("keeps 1 0;keeps 2 1;").told(2), 9);
        due("told(2)", Due.of("meets 0 1;").told(2), 15);
    }

    static void p06TheAnswer() {
        promise(6, "3: the answer (0 .. 2)");
        due("told(3), untold", new CustomValley().told(3), 0);
        String[] texts = {"answer best;", "answer most;", "answer copy;"};
        for (int i = 0; i < 3; i++) {
            due("told(3) of " + texts[i], Due.of(texts[i]).told(3), i);
            due("told(3) of " + texts[i] + " and stays", Due.of(texts[i] + "stays;").told(3), i);
        }
    }

    static void p06IfStays() {
        promise(6, "4: 1 if stays");
        due("told(4), untold", new CustomValley().told(4), 0);
        due("told(4)", Due.of("stays;").told(4), 1);
        due("told(4)", Due.of("answer copy;").told(4), 0);
        due("told(4)", Due.of("answer copy;stays;").told(4), 1);
    }

    static void p06HowManyStates() {
        promise(6, "5: how many STATES there are");
        due("told(5), the fewest", Due.of("people 2;keeps 0 0;keeps 1 1;").told(5), 1);
        due("told(5), all keep", Due.of("people 10;" + keepAll(10)).told(5), 1);
        due("told(5)", Due.of("people 2;").told(5), 4);
        due("told(5)", Due.of(KEEPER).told(5), 9);
        due("told(5), the most", Due.of("people 10;").told(5), 1024);
        due("told(5), the most", Due.of("people 5;habits 4;").told(5), 1024);
    }

    private static String keepAll(int people) {
        StringBuilder b = new StringBuilder();
        for (int p = 0; p < people; p++) {
            b.append("keeps ").append(p).append(" 1;");
        }
        return b.toString();
    }

    static void p06WhatASlipCosts() {
        promise(6, "10 + i: what a slip to HABIT i costs");
        CustomValley four = Due.of("habits 4;slip 0 3;slip 3 2;");
        int[] costs = {NONE, 3, 1, 1, 2, NONE, NONE};
        for (int i = -1; i < 6; i++) {
            due("told(10 + " + i + ") of four habits", four.told(10 + i), costs[i + 1]);
        }
        CustomValley two = Due.of("slip 1 2;");
        due("told(11) of two", two.told(11), 2);
        due("told(12) of two", two.told(12), NONE);
        due("told(13) of two", two.told(13), NONE);
    }

    static void p06WhomSheMeets() {
        promise(6, "20 + p: whom person p meets, as bits");
        CustomValley ten = Due.of("people 10;meets 0 9 9 5;");
        int[] meets = {NONE, 512, 0, 0, 0, 0, 512, 0, 0, 0, 33, NONE};
        for (int p = -1; p < 11; p++) {
            due("told(20 + " + p + ") of ten", ten.told(20 + p), meets[p + 1]);
        }
        CustomValley two = Due.of("people 2;");
        due("told(21) of two", two.told(21), 1);
        due("told(22) of two", two.told(22), NONE);
    }

    static void p06WhatOneGetsWithAnother() {
        promise(6, "40 + 4 i + j: what i gets with j");
        CustomValley four = Due.of("habits 4;worth 0 3 11;worth 3 0 12;worth 3 3 13;");
        int[] gets = {1, 0, 0, 11, 0, 1, 0, 0, 0, 0, 1, 0, 12, 0, 0, 13};
        for (int i = 0; i < 16; i++) {
            due("told(40 + " + i + ") of four", four.told(40 + i), gets[i]);
        }
        due("told(39) of four", four.told(39), NONE);
        due("told(56) of four", four.told(56), NONE);
        CustomValley three = Due.of("habits 3;worth 2 2 99;worth 0 2 98;");
        int[] less = {1, 0, 98, NONE, 0, 1, 0, NONE, 0, 0, 99, NONE, NONE, NONE, NONE, NONE, NONE, NONE, NONE, NONE};
        for (int i = 0; i < 20; i++) {
            due("told(40 + " + i + ") of three", three.told(40 + i), less[i]);
        }
    }

    static void p06WhatSheKeeps() {
        promise(6, "60 + p: the HABIT that p keeps (NONE).");
        CustomValley ten = Due.of("people 10;keeps 0 0;keeps 9 1;");
        due("told(59)", ten.told(59), NONE);
        due("told(60)", ten.told(60), 0);
        for (int p = 1; p < 9; p++) {
            due("told(60 + " + p + ")", ten.told(60 + p), NONE);
        }
        due("told(69)", ten.told(69), 1);
        due("told(70)", ten.told(70), NONE);
        CustomValley two = Due.of("people 2;keeps 1 1;");
        due("told(61) of two", two.told(61), 1);
        due("told(62) of two", two.told(62), NONE);
    }

    static void p06Others() {
        promise(6, "NONE for others.");
        CustomValley[] all = {new CustomValley(), Due.of("people 10;"), Due.of("people 5;habits 4;keeps 4 3;")};
        int[] others = {LOW, LOW + 10, -60, -10, -1, 6, 7, 8, 9, 14, 19, 30, 39, 56, 57, 58, 59, 70, 100, 1024, HIGH};
        for (CustomValley x : all) {
            for (int what : others) {
                due("told(" + what + ")", x.told(what), NONE);
            }
        }
    }

    // ---- promise 7

    static void p07HabitOfAPerson() {
        promise(7, "The HABIT of a person in a STATE");
        CustomValley x = Due.of(KEEPER);
        int[] want = {1, 2, 2};
        for (int p = 0; p < 3; p++) {
            due("habit(25, " + p + ")", x.habit(25, p), want[p]);
        }
        CustomValley ten = Due.of("people 10;");
        for (int p = 0; p < 10; p++) {
            due("habit(0, " + p + ")", ten.habit(0, p), 0);
            due("habit(1023, " + p + ")", ten.habit(1023, p), 1);
            due("habit(512, " + p + ")", ten.habit(512, p), p == 9 ? 1 : 0);
        }
    }

    static void p07HowAStateIsWritten() {
        term(7, "A STATE: who has which HABIT");
        term(7, ": the HABIT of person 0 and habits times (that of person 1 and habits times (..))");
        CustomValley x = Due.of("people 5;habits 4;");
        int[] have = {3, 0, 2, 1, 3};
        int s = 3 + 4 * (0 + 4 * (2 + 4 * (1 + 4 * 3)));
        for (int p = 0; p < 5; p++) {
            due("habit(" + s + ", " + p + ")", x.habit(s, p), have[p]);
            due("habit(1023, " + p + ")", x.habit(1023, p), 3);
        }
    }

    static void p07OthersAreNoStates() {
        term(7, "those who keep one have it: others are no STATES.");
        CustomValley x = Due.of(KEEPER);
        int states = 0;
        for (int s = -3; s < 40; s++) {
            boolean state = s >= 0 && s < 27 && s / 3 % 3 == 2;
            states += state ? 1 : 0;
            due("habit(" + s + ", 1)", x.habit(s, 1), state ? 2 : RANGE);
        }
        due("told(5)", x.told(5), states);
        CustomValley one = Due.of("people 2;keeps 0 0;keeps 1 1;");
        for (int s = 0; s < 4; s++) {
            due("habit(" + s + ", 0) if all keep", one.habit(s, 0), s == 2 ? 0 : RANGE);
        }
    }

    static void p07NoSuchState() {
        promise(7, "RANGE.");
        CustomValley x = Due.of(KEEPER);
        for (int s : NO_STATES) {
            due("habit(" + s + ", 0)", x.habit(s, 0), RANGE);
        }
        CustomValley ten = Due.of("people 10;");
        due("habit(1023, 9)", ten.habit(1023, 9), 1);
        due("habit(1024, 9)", ten.habit(1024, 9), RANGE);
        due("habit(-1, 9)", ten.habit(-1, 9), RANGE);
    }

    static void p07NoSuchPerson() {
        promise(7, "RANGE.");
        for (int p : new int[] {LOW, -1, 3, 10, 11, HIGH}) {
            due("habit(6, " + p + ")", Due.of(KEEPER).habit(6, p), RANGE);
        }
        for (int p : new int[] {-1, 10, 11, 32}) {
            due("habit(0, " + p + ") of ten", Due.of("people 10;").habit(0, p), RANGE);
        }
    }

    // ---- promise 8

    static void p08WorthOfAPerson() {
        promise(8, "WORTH of a person in a STATE");
        CustomValley x = Due.of(KEEPER);
        // state 25: habits 1, 2, 2
        due("worth(25, 0)", x.worth(25, 0), 0);
        due("worth(25, 1)", x.worth(25, 1), 13);
        due("worth(25, 2)", x.worth(25, 2), 13);
    }

    static void p08WhomSheMeetsAlone() {
        term(8, "WORTH of a person in a STATE: the sum over all whom she meets of what her HABIT gets with theirs.");
        CustomValley line = Due.of("people 3;meets 0 1 1 2;worth 0 0 5;worth 0 1 7;worth 1 0 11;worth 1 1 13;");
        // state 2: habits 0, 1, 0
        due("worth(2, 0)", line.worth(2, 0), 7);
        due("worth(2, 1)", line.worth(2, 1), 22);
        due("worth(2, 2)", line.worth(2, 2), 7);
        CustomValley alone = Due.of("people 3;meets 0 1;worth 0 0 5;");
        due("worth(0, 2) of one who meets none", alone.worth(0, 2), 0);
        due("worth(4, 2) of one who meets none", alone.worth(4, 2), 0);
        due("worth(0, 0)", alone.worth(0, 0), 5);
    }

    static void p08TheGreatestWorth() {
        term(8, "WORTH of a person in a STATE: the sum over all whom she meets of what her HABIT gets with theirs.");
        CustomValley x = Due.of("people 10;worth 0 0 99;worth 0 1 99;worth 1 1 0;");
        due("worth(0, 9)", x.worth(0, 9), 891);
        due("worth(1022, 0)", x.worth(1022, 0), 891);
        due("worth(1023, 0)", x.worth(1023, 0), 0);
    }

    static void p08NoSuchStateOrPerson() {
        promise(8, "RANGE.");
        CustomValley x = Due.of(KEEPER);
        for (int s : NO_STATES) {
            due("worth(" + s + ", 0)", x.worth(s, 0), RANGE);
        }
        for (int p : new int[] {LOW, -1, 3, 10, HIGH}) {
            due("worth(6, " + p + ")", x.worth(6, p), RANGE);
        }
        CustomValley ten = Due.of("people 10;");
        due("worth(1023, 9)", ten.worth(1023, 9), 9);
        due("worth(1024, 9)", ten.worth(1024, 9), RANGE);
        due("worth(1023, 10)", ten.worth(1023, 10), RANGE);
    }

    // ---- promise 9

    static void p09AsBits() {
        promise(9, "ANSWERS of a person in a STATE, as bits (those who keep a HABIT: that)");
        CustomValley x = Due.of("people 2;habits 4;worth 0 0 0;worth 1 1 0;worth 2 2 0;worth 3 3 0;");
        due("answers(0, 0): all four", x.answers(0, 0), 15);
        CustomValley y = Due.of("people 2;habits 4;worth 3 0 1;worth 0 0 0;");
        due("answers(0, 0): the last", y.answers(0, 0), 8);
        due("answers(4, 0): the one", y.answers(4, 0), 2);
    }

    static void p09ThoseWhoKeep() {
        promise(9, "ANSWERS of a person in a STATE, as bits (those who keep a HABIT: that)");
        for (String way : new String[] {"best", "most", "copy"}) {
            for (String stays : new String[] {"", "stays;"}) {
                CustomValley x = Due.of("people 3;habits 3;answer " + way + ";" + stays + "keeps 0 0;keeps 2 2;");
                // state 18: habits 0, 0, 2
                due("answers(18, 0), " + way, x.answers(18, 0), 1);
                due("answers(18, 2), " + way, x.answers(18, 2), 4);
                due("answers(24, 0), " + way, x.answers(24, 0), 1);
            }
        }
    }

    static void p09Best() {
        term(9, "ANSWERS of a person in a STATE: best: the HABITS with which her WORTH would be greatest");
        CustomValley x = Due.of("people 3;worth 0 0 3;worth 0 1 0;worth 1 0 1;worth 1 1 2;");
        // she meets 0 0: 6 or 2; 0 1: 3 or 3; 1 1: 0 or 4
        due("answers(0, 0)", x.answers(0, 0), 1);
        due("answers(1, 0)", x.answers(1, 0), 1);
        due("answers(2, 0): both are as good", x.answers(2, 0), 3);
        due("answers(3, 0)", x.answers(3, 0), 3);
        due("answers(6, 0)", x.answers(6, 0), 2);
        due("answers(7, 0)", x.answers(7, 0), 2);
        due("answers, one who meets none", Due.of("people 3;habits 3;meets 0 1;").answers(0, 2), 7);
        // one more is enough
        CustomValley close = Due.of("people 2;worth 0 0 98;worth 1 0 99;");
        due("answers(0, 0): by one", close.answers(0, 0), 2);
    }

    static void p09Most() {
        term(9, "most: those that most of whom she meets have (all, if she meets none)");
        CustomValley x = Due.of("people 6;habits 3;answer most;meets 0 1 0 2 0 3 0 4;worth 1 1 99;");
        int[] place = {1, 3, 9, 27, 81, 243};
        // persons 1 to 4: 2 2 1 0, then 2 2 1 1, then 0 0 0 0; her own does not count
        due("two, one and one", x.answers(2 * place[1] + 2 * place[2] + place[3], 0), 4);
        due("two and two", x.answers(2 * place[1] + 2 * place[2] + place[3] + place[4], 0), 6);
        due("all one", x.answers(1, 0), 1);
        due("one, one and two", x.answers(place[1] + 2 * place[2], 0), 1);
        due("she meets none", x.answers(0, 5), 7);
        due("she meets none, but has one", x.answers(2 * place[5], 5), 7);
        due("she meets one", x.answers(2, 1), 4);
    }

    static void p09Copy() {
        term(9, "copy: the HABITS of those with the greatest WORTH among herself and whom she meets.");
        CustomValley x = Due.of("people 4;answer copy;meets 0 1 1 2 2 3;"
                + "worth 0 0 1;worth 0 1 5;worth 1 0 2;worth 1 1 3;");
        // state 6: habits 0 1 1 0, worths 5, 5, 5, 5
        due("answers(6, 0): alike", x.answers(6, 0), 3);
        due("answers(6, 1): alike", x.answers(6, 1), 3);
        // state 1: habits 1 0 0 0, worths 2, 6, 2, 1
        due("answers(1, 0): of whom she meets", x.answers(1, 0), 1);
        due("answers(1, 3)", x.answers(1, 3), 1);
        // state 3: habits 1 1 0 0, worths 3, 5, 6, 1
        due("answers(3, 0): whom she doesn't meet she doesn't copy", x.answers(3, 0), 2);
        due("answers(3, 1)", x.answers(3, 1), 1);
        due("answers(3, 2): herself", x.answers(3, 2), 1);
        CustomValley alone = Due.of("people 3;answer copy;meets 0 1;");
        due("answers(0, 2): she meets none", alone.answers(0, 2), 1);
        due("answers(4, 2): she meets none", alone.answers(4, 2), 2);
    }

    static void p09Stays() {
        term(9, "stays: if her own is one of them, that alone.");
        CustomValley best = Due.of("people 3;stays;");
        // state 2: habits 0 1 0
        due("answers(2, 0): her own of two", best.answers(2, 0), 1);
        due("answers(3, 0): her own of two", best.answers(3, 0), 2);
        due("answers(6, 0): not one of them", best.answers(6, 0), 2);
        CustomValley most = Due.of("people 3;habits 3;answer most;meets 0 1;stays;");
        due("answers(18, 2): she meets none", most.answers(18, 2), 4);
        CustomValley copy = Due.of("people 2;answer copy;worth 0 1 1;worth 1 0 1;stays;");
        due("answers(1, 0): alike", copy.answers(1, 0), 2);
        due("answers(1, 1): alike", copy.answers(1, 1), 1);
        CustomValley goes = Due.of("people 2;answer copy;worth 0 1 1;worth 1 0 1;");
        due("answers(1, 0) without stays", goes.answers(1, 0), 3);
    }

    static void p09NoSuchStateOrPerson() {
        promise(9, "RANGE.");
        CustomValley x = Due.of(KEEPER);
        for (int s : NO_STATES) {
            due("answers(" + s + ", 0)", x.answers(s, 0), RANGE);
            due("answers(" + s + ", 1): she keeps", x.answers(s, 1), RANGE);
        }
        for (int p : new int[] {LOW, -1, 3, 10, HIGH}) {
            due("answers(6, " + p + ")", x.answers(6, p), RANGE);
        }
        CustomValley ten = Due.of("people 10;");
        due("answers(1023, 9)", ten.answers(1023, 9), 2);
        due("answers(1023, 10)", ten.answers(1023, 10), RANGE);
        due("answers(1024, 9)", ten.answers(1024, 9), RANGE);
    }

    // ---- promise 10

    static void p10TheStateBehindAMove() {
        promise(10, "The STATE behind a MOVE");
        CustomValley x = Due.of(KEEPER);
        due("move(6, 0, 2)", x.move(6, 0, 2), 8);
        due("move(8, 0, 1)", x.move(8, 0, 1), 7);
        due("move(8, 2, 2)", x.move(8, 2, 2), 26);
        due("move(26, 2, 0)", x.move(26, 2, 0), 8);
        CustomValley ten = Due.of("people 10;");
        due("move(511, 9, 1)", ten.move(511, 9, 1), 1023);
        due("move(1023, 9, 0)", ten.move(1023, 9, 0), 511);
    }

    static void p10ItMayBeHerOwn() {
        term(10, "A MOVE: one FREE person takes a HABIT (it may be her own).");
        CustomValley x = Due.of(KEEPER);
        for (int s : new int[] {6, 7, 8, 15, 26}) {
            due("move(" + s + ", 0, her own)", x.move(s, 0, s % 3), s);
            due("move(" + s + ", 2, her own)", x.move(s, 2, s / 9), s);
        }
    }

    static void p10NotFree() {
        promise(10, "NONE: the person isn't FREE");
        CustomValley x = Due.of(KEEPER);
        for (int h = 0; h < 3; h++) {
            due("move(6, 1, " + h + ")", x.move(6, 1, h), NONE);
        }
        CustomValley none = Due.of("people 2;keeps 0 0;keeps 1 1;");
        due("move(2, 0, 0)", none.move(2, 0, 0), NONE);
        due("move(2, 1, 0)", none.move(2, 1, 0), NONE);
    }

    static void p10NoSuchStatePersonHabit() {
        promise(10, "RANGE: no such STATE, person, HABIT.");
        CustomValley x = Due.of(KEEPER);
        for (int s : NO_STATES) {
            due("move(" + s + ", 0, 0)", x.move(s, 0, 0), RANGE);
        }
        for (int p : new int[] {LOW, -1, 3, 10, HIGH}) {
            due("move(6, " + p + ", 0)", x.move(6, p, 0), RANGE);
        }
        for (int h : new int[] {LOW, -1, 3, 4, HIGH}) {
            due("move(6, 0, " + h + ")", x.move(6, 0, h), RANGE);
        }
        CustomValley four = Due.of("people 5;habits 4;");
        due("move(0, 4, 3)", four.move(0, 4, 3), 768);
        due("move(0, 4, 4)", four.move(0, 4, 4), RANGE);
        due("move(0, 5, 3)", four.move(0, 5, 3), RANGE);
    }

    static void p10OutOfRangeGoesAheadOfNotFree() {
        promise(10, "RANGE: no such STATE, person, HABIT.");
        CustomValley x = Due.of(KEEPER);
        due("move(6, 1, 3)", x.move(6, 1, 3), RANGE);
        due("move(6, 1, -1)", x.move(6, 1, -1), RANGE);
        due("move(5, 1, 0)", x.move(5, 1, 0), RANGE);
    }

    static void p10AskingChangesNothing() {
        promise(10, "The STATE behind a MOVE");
        CustomValley x = busy();
        refused(x, "move(0, 0, 1)", () -> x.move(0, 0, 1), 1);
        refused(x, "move(0, 0, 2)", () -> x.move(0, 0, 2), RANGE);
    }
}
