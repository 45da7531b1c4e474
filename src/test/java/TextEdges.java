/** Promises 4 and 5: texts of valleys and their faults. */
final class TextEdges extends Edge {
    private static final int SYNTAX = 1;
    private static final int OUT = 2;
    private static final int TWICE = 3;
    private static final int LATE = 4;

    private TextEdges() {
    }

    /** The text has this fault. */
    private static void fault(String text, int kind, int place) {
        CustomValley x = new CustomValley();
        due("valley() of '" + text + "'", Due.read(x, text), NONE);
        due("fault(0) of '" + text + "'", x.fault(0), kind);
        due("fault(1) of '" + text + "'", x.fault(1), place);
    }

    /** The text is a valley of so many clauses. */
    private static CustomValley well(String text, int clauses) {
        CustomValley x = new CustomValley();
        due("valley() of '" + text + "'", Due.read(x, text), clauses);
        due("fault(0) of '" + text + "'", x.fault(0), 0);
        due("fault(1) of '" + text + "'", x.fault(1), NONE);
        return x;
    }

    // ---- promise 4

    static void p04NoClauseAtAll() {
        promise(4, "THE TAPE is a VALLEY: how many clauses");
        well("", 0);
        well(" ", 0);
        well("\n \n", 0);
        well(" ".repeat(700), 0);
    }

    static void p04HowManyClauses() {
        promise(4, "THE TAPE is a VALLEY: how many clauses");
        well("stays;", 1);
        well("meets 0 1 1 2 2 3;", 1);
        CustomValley x = well("people 3;habits 3;worth 0 1 7;meets 0 1;answer copy;stays;keeps 0 1;slip 2 2;", 8);
        due("count(0)", x.count(0), 8);
    }

    static void p04AsManyClausesAsCanBe() {
        promise(4, "THE TAPE is a VALLEY: how many clauses");
        StringBuilder b = new StringBuilder("people 10;habits 2;stays;answer copy;slip 0 1;slip 1 3;");
        b.append("worth 0 0 9;worth 0 1 8;worth 1 0 7;worth 1 1 6;");
        for (int p = 0; p < 10; p++) {
            b.append("keeps ").append(p).append(" 0;");
            for (int q = 0; q < p; q++) {
                b.append("meets ").append(p).append(' ').append(q).append(';');
            }
        }
        CustomValley x = well(b + " ".repeat(700 - b.length()), 65);
        due("told(5)", x.told(5), 1);
        due("told(29)", x.told(29), 511);
    }

    static void p04FaultTellsNone() {
        promise(4, "NONE with a FAULT (it stays).");
        CustomValley x = busy();
        for (String text : new String[] {";", "people 1;", "stays;stays;", "slip 0 1;people 3;", "stays"}) {
            Due.put(x, text);
            due("valley() of '" + text + "'", x.valley(), NONE);
            due("told(0)", x.told(0), 4);
            due("told(3)", x.told(3), 1);
            due("told(4)", x.told(4), 0);
            due("told(11)", x.told(11), 2);
            due("told(41)", x.told(41), 1);
            due("count(0)", x.count(0), 4);
            due("rests()", x.rests(), 2);
        }
    }

    static void p04FaultAtTheEndLeavesAllAsItWas() {
        promise(4, "NONE with a FAULT (it stays).");
        CustomValley x = busy();
        Due.put(x, "people 3;habits 3;worth 0 0 9;meets 0 1;answer copy;stays;keeps 0 1;slip 0 3;slip 0 3;");
        due("valley()", x.valley(), NONE);
        due("told(0)", x.told(0), 4);
        due("told(1)", x.told(1), 2);
        due("told(2)", x.told(2), 15);
        due("told(3)", x.told(3), 1);
        due("told(4)", x.told(4), 0);
        due("told(5)", x.told(5), 16);
        due("told(10)", x.told(10), 1);
        due("told(20)", x.told(20), 14);
        due("told(40)", x.told(40), 1);
        due("told(60)", x.told(60), NONE);
        due("count(0)", x.count(0), 4);
        due("answers(1, 1)", x.answers(1, 1), 1);
    }

    static void p04FaultLeavesWhatWasTold() {
        promise(4, "NONE with a FAULT (it stays).");
        CustomValley x = busy();
        CustomValley y = busy();
        Due.put(x, "people;");
        x.valley();
        due("count(1)", x.count(1), 2);
        due("count(2)", x.count(2), 1);
        for (int i = -1; i < 5; i++) {
            due("way(" + i + ")", x.way(i), y.way(i));
            due("treeTo(" + i + ")", x.treeTo(i), y.treeTo(i));
            due("ran(" + i + ")", x.ran(i), y.ran(i));
            due("judged(" + i + ")", x.judged(i), y.judged(i));
        }
        for (int s = 0; s < 16; s++) {
            due("parts(" + s + ")", x.parts(s), y.parts(s));
        }
        due("see(2, 21, 0): the latest step is 3", x.see(2, 21, 0), RANGE);
        due("see(3, 21, 0)", x.see(3, 21, 0), 2);
    }

    static void p04SeenAreNone() {
        promise(4, "SEEN are none then");
        for (String text : new String[] {"", "people 4;", "people 2;"}) {
            CustomValley x = busy();
            due("valley()", Due.read(x, text), text.isEmpty() ? 0 : 1);
            due("count(1)", x.count(1), 0);
            due("count(2)", x.count(2), 0);
            due("explained(999, 1)", x.explained(999, 1), 0);
            due("right(3, 0, 0): none is seen", x.right(3, 0, 0), RANGE);
            due("see(3, 5, 0): no day is behind it", x.see(3, 5, 0), 0);
            due("right(3, 0, 0): it wasn't put right before", x.right(3, 0, 0), 1);
        }
    }

    static void p04TwentyCanBeSeenAgain() {
        promise(4, "SEEN are none then");
        CustomValley x = new CustomValley();
        for (int i = 0; i < 20; i++) {
            x.see(0, i, 0);
            x.right(0, 0, 1);
        }
        due("see: the 21st", x.see(0, 20, 0), FULL);
        due("right: the 21st", x.right(0, 0, 0), FULL);
        x.valley();
        for (int i = 0; i < 20; i++) {
            due("see(0, " + i + ", 0)", x.see(0, i, 0), i);
            due("right(0, 0, 1)", x.right(0, 0, 1), i + 1);
        }
        due("see: the 21st", x.see(0, 20, 0), FULL);
        due("right: the 21st", x.right(0, 0, 0), FULL);
    }

    static void p04LatestStepIsZero() {
        promise(4, "(the latest STEP of telling is 0)");
        CustomValley x = new CustomValley();
        x.see(999, 0, 0);
        due("see(0, 1, 0)", x.see(0, 1, 0), RANGE);
        x.valley();
        due("see(0, 1, 0) behind valley()", x.see(0, 1, 0), 0);
        due("right(999, 0, 1)", x.right(999, 0, 1), 1);
        due("see(998, 2, 0)", x.see(998, 2, 0), RANGE);
        x.valley();
        due("see(-1, 0, 0) behind valley()", x.see(-1, 0, 0), RANGE);
        due("see(0, 0, 0) behind valley()", x.see(0, 0, 0), 0);
        due("right(0, 0, 1) behind valley()", x.right(0, 0, 1), 1);
    }

    static void p04WhatWayTreeFlowRunToldIsGone() {
        promise(4, "and what way(), tree(), flow(), run() told.");
        CustomValley x = busy();
        due("valley()", Due.read(x, "people 4;"), 1);
        for (int i = -1; i < 5; i++) {
            due("way(" + i + ")", x.way(i), NONE);
            due("treeTo(" + i + ")", x.treeTo(i), NONE);
            due("ran(" + i + ")", x.ran(i), NONE);
            due("ran(10 + " + i + ")", x.ran(10 + i), NONE);
            due("partsOf(" + i + ")", x.partsOf(i), NONE);
        }
        for (int s = 0; s < 16; s++) {
            due("parts(" + s + ")", x.parts(s), NONE);
        }
    }

    static void p04WhatJudgeToldIsNotNamed() {
        promise(4, "and what way(), tree(), flow(), run() told.");
        CustomValley x = busy();
        int[] told = {x.judged(0), x.judged(1), x.judged(2), x.judged(3)};
        due("judged(2)", told[2], 5);
        due("valley()", Due.read(x, "people 2;"), 1);
        for (int i = 0; i < 4; i++) {
            due("judged(" + i + ") stays", x.judged(i), told[i]);
        }
    }

    static void p04NothingOfTheValleyBefore() {
        promise(4, "THE TAPE is a VALLEY: how many clauses");
        CustomValley x = Due.of("people 5;habits 4;worth 0 0 9;worth 0 1 8;worth 1 0 7;meets 3 4;answer most;stays;"
                + "keeps 1 2;slip 1 3;");
        x.rests();
        x.winners();
        x.shortly();
        x.bound(1);
        x.gift(1);
        x.comes(8, 0);
        x.answers(8, 0);
        due("valley() of nothing", x.valley(), 0);
        CustomValley fresh = new CustomValley();
        for (int what = 0; what < 75; what++) {
            due("told(" + what + ")", x.told(what), fresh.told(what));
        }
        due("rests()", x.rests(), 2);
        due("rest(0, 2)", x.rest(0, 2), 5);
        due("rest(1, 2)", x.rest(1, 2), 5);
        due("winners()", x.winners(), 3);
        due("shortly()", x.shortly(), NONE);
        due("bound(1)", x.bound(1), 1);
        due("gift(1)", x.gift(1), 1);
        due("comes(7, 0)", x.comes(7, 0), 0);
        due("answers(7, 3)", x.answers(7, 3), 2);
        due("coradius(0)", x.coradius(0), 2);
        due("count(0)", x.count(0), 0);
    }

    static void p04AllAnswersAreThoseOfANewObject() {
        promise(4, "THE TAPE is a VALLEY: how many clauses");
        String[] texts = {"people 3;keeps 2 1;", "people 2;habits 3;slip 1 2;", "people 3;meets 0 1;answer copy;"};
        for (String text : texts) {
            CustomValley used = Due.of("people 5;habits 4;worth 0 1 8;meets 3 4 0 1 1 2;answer most;slip 1 3;");
            used.fewest(0, 1023);
            used.tree(0);
            used.flow(1023, 9, 3);
            used.run(1023, 1, 99, 2);
            used.bound(1);
            used.coradius(1);
            Due.read(used, text);
            CustomValley fresh = Due.of(text);
            for (int s = 0; s < 9; s++) {
                for (int t = 0; t < 9; t++) {
                    String pair = "(" + s + ", " + t + ") of " + text;
                    due("fewest" + pair, used.fewest(s, t), fresh.fewest(s, t));
                    due("way(-1) of fewest" + pair, used.way(-1), fresh.way(-1));
                    due("way(1) of fewest" + pair, used.way(1), fresh.way(1));
                }
                due("restOf(" + s + ") of " + text, used.restOf(s), fresh.restOf(s));
                due("radius(" + s + ") of " + text, used.radius(s), fresh.radius(s));
                due("coradius(" + s + ") of " + text, used.coradius(s), fresh.coradius(s));
                due("tree(" + s + ") of " + text, used.tree(s), fresh.tree(s));
                due("bound(" + s + ") of " + text, used.bound(s), fresh.bound(s));
                due("carried(" + s + ", 0) of " + text, used.carried(s, 0), fresh.carried(s, 0));
                due("flow(" + s + ", 3, 2) of " + text, used.flow(s, 3, 2), fresh.flow(s, 3, 2));
                due("parts(" + s + ") of " + text, used.parts(s), fresh.parts(s));
                due("run(" + s + ", 9, 9, 2) of " + text, used.run(s, 9, 9, 2), fresh.run(s, 9, 9, 2));
            }
        }
    }

    // ---- promise 5

    static void p05AheadOfAny() {
        promise(5, "0 without (and ahead of any)");
        CustomValley x = new CustomValley();
        due("fault(0)", x.fault(0), 0);
        due("fault(1)", x.fault(1), NONE);
    }

    static void p05OfTheLatest() {
        promise(5, "Of the latest valley(), what 0: its FAULT's KIND");
        CustomValley x = new CustomValley();
        Due.read(x, "stays;people 1;");
        due("fault(0)", x.fault(0), OUT);
        due("fault(1)", x.fault(1), 13);
        Due.read(x, ";");
        due("fault(0) of the next", x.fault(0), SYNTAX);
        due("fault(1) of the next", x.fault(1), 0);
        Due.read(x, "stays;");
        due("fault(0) of one without", x.fault(0), 0);
        due("fault(1) of one without", x.fault(1), NONE);
        Due.read(x, "slip 0 1;habits 2;");
        x.judge(0);
        x.end(1);
        due("fault(0) behind other calls", x.fault(0), LATE);
        due("fault(1) behind other calls", x.fault(1), 9);
    }

    static void p05PlaceOrNone() {
        promise(5, "1: its PLACE (NONE).");
        fault("!", SYNTAX, 0);
        fault(" !", SYNTAX, 1);
        well("stays;", 1);
    }

    static void p05AnotherWhat() {
        promise(5, "NONE for another what.");
        CustomValley x = new CustomValley();
        Due.read(x, "stays;people 1;");
        for (int what : new int[] {-1, 2, 3, 256, HIGH, LOW}) {
            due("fault(" + what + ")", x.fault(what), NONE);
        }
    }

    static void p05BlanksAre32And10() {
        term(5, "TOKENS with any blanks (32, 10) between");
        for (int b = 0; b < 256; b++) {
            CustomValley x = new CustomValley();
            boolean blank = b == 32 || b == 10;
            String text = "stays" + (char) b + ";";
            boolean end = b == ';';
            due("valley() with " + b + " between", Due.read(x, text), blank ? 1 : NONE);
            int place = b >= 'a' && b <= 'z' ? 0 : end ? 6 : 5;
            due("fault(1) with " + b + " between", x.fault(1), blank ? NONE : place);
        }
    }

    static void p05BlanksMayBeMissing() {
        term(5, "TOKENS with any blanks (32, 10) between");
        CustomValley x = well("people3;habits2;slip1 3;keeps0 1;answer best;worth0 1 0099;", 6);
        due("told(41)", x.told(41), 99);
        well(" \n people \n\n 3 \n ; \n ", 1);
        fault("answerbest;", SYNTAX, 0);
        fault("meets 01;", SYNTAX, 8);
    }

    static void p05EightLettersAtMost() {
        term(5, "WORDS (small letters, as many as there are, 8 at most)");
        fault("stays;abcdefgh;", SYNTAX, 6);
        fault("stays;abcdefghi;", SYNTAX, 6);
        fault("stays;" + "z".repeat(694), SYNTAX, 6);
        // were the run cut at eight letters, the word behind it would be a clause
        fault("stays;peopleee people 3;", SYNTAX, 6);
        fault("Stays;", SYNTAX, 0);
        fault("stayS;", SYNTAX, 0);
        fault("stays`;", SYNTAX, 5);
        fault("stays{;", SYNTAX, 5);
    }

    static void p05WordsAreWhole() {
        term(5, "WORDS (small letters, as many as there are, 8 at most)");
        for (String word : new String[] {"people", "habits", "worth", "meets", "answer", "stays", "keeps", "slip"}) {
            fault(word.substring(0, word.length() - 1) + " 0 0 0;", SYNTAX, 0);
            fault(word + "s 0 0 0;", SYNTAX, 0);
            fault(word.substring(1) + " 0 0 0;", SYNTAX, 0);
            for (int i = 0; i < word.length(); i++) {
                String other = word.substring(0, i) + 'z' + word.substring(i + 1);
                fault(other + (word.equals("stays") ? ";" : " 0 1 1;"), SYNTAX, 0);
            }
        }
        fault("answer bes;", SYNTAX, 7);
        fault("answer bests;", SYNTAX, 7);
    }

    static void p05FourDigitsAtMost() {
        term(5, "N (digits, as many as there are, 4 at most)");
        well("people 0003;", 1);
        fault("people 00003;", SYNTAX, 7);
        fault("people 9999;", OUT, 7);
        fault("people 10000;", SYNTAX, 7);
        fault("people " + "0".repeat(692) + "3", SYNTAX, 7);
        // a number that wraps around in 32 or 64 bits to 3
        fault("people 4294967299;", SYNTAX, 7);
        fault("people 18446744073709551619;", SYNTAX, 7);
        CustomValley x = well("worth 0 0 0099;worth 0000 0001 0000;", 2);
        due("told(40)", x.told(40), 99);
        fault("worth 0 0 00099;", SYNTAX, 10);
    }

    static void p05AnyNumberOfClauses() {
        term(5, "A VALLEY is a text = {clause \";\"}.");
        well("", 0);
        well("stays;", 1);
        well("stays;answer most;", 2);
        fault(";", SYNTAX, 0);
        fault("stays;;", SYNTAX, 6);
        fault("stays", SYNTAX, 5);
        fault("stays answer most;", SYNTAX, 6);
        fault("3;", SYNTAX, 0);
        fault("best;", SYNTAX, 0);
    }

    static void p05WhatEachClauseTakes() {
        term(5, "clause = \"people\" N | \"habits\" N | \"worth\" N N N | \"meets\" N N {N N} | \"answer\" (\"best\" | "
                + "\"most\" | \"copy\") | \"stays\" | \"keeps\" N N | \"slip\" N N.");
        String[] clauses = {"people 4", "habits 2", "worth 0 1 1", "meets 0 1", "stays", "keeps 0 1", "slip 0 1",
            "answer best", "answer most", "answer copy", "meets 0 1 1 2", "meets 0 1 1 2 2 3 0 3 0 2 1 3"};
        for (String clause : clauses) {
            well(clause + ";", 1);
            String less = clause.contains(" ") ? clause.substring(0, clause.lastIndexOf(' ')) : "";
            fault(less + ";", SYNTAX, less.length());
            if (!less.isEmpty()) {
                fault(less, SYNTAX, less.length());
            }
            if (!clause.startsWith("meets")) {
                fault(clause + " 1;", SYNTAX, clause.length() + 1);
            }
            fault(clause + " best;", SYNTAX, clause.length() + 1);
        }
        fault("meets;", SYNTAX, 5);
        fault("meets 0 1 1;", SYNTAX, 11);
        fault("answer 0;", SYNTAX, 7);
        fault("people best;", SYNTAX, 7);
    }

    static void p05PeopleFromTwoToTen() {
        term(5, "Bounds: people 2 .. 10 (4)");
        fault("people 0;", OUT, 7);
        fault("people 1;", OUT, 7);
        due("told(0)", well("people 2;", 1).told(0), 2);
        due("told(0)", well("people 10;", 1).told(0), 10);
        fault("people 11;", OUT, 7);
        due("told(0), untold", well("stays;", 1).told(0), 4);
    }

    static void p05HabitsFromTwoToFour() {
        term(5, "habits 2 .. 4 (2)");
        fault("habits 0;", OUT, 7);
        fault("habits 1;", OUT, 7);
        due("told(1)", well("habits 2;", 1).told(1), 2);
        due("told(1)", well("habits 4;", 1).told(1), 4);
        fault("habits 5;", OUT, 7);
        fault("people 2;habits 5;", OUT, 16);
        due("told(1), untold", well("stays;", 1).told(1), 2);
    }

    static void p05AtMost1024() {
        term(5, "habits to the people's power at most 1024");
        due("told(5)", well("people 10;habits 2;", 2).told(5), 1024);
        due("told(5)", well("people 5;habits 4;", 2).told(5), 1024);
        due("told(5)", well("habits 4;people 5;", 2).told(5), 1024);
        due("told(5)", well("people 6;habits 3;", 2).told(5), 729);
        due("told(5)", well("habits 3;people 6;", 2).told(5), 729);
        due("told(5)", well("habits 2;people 10;", 2).told(5), 1024);
    }

    static void p05MoreThan1024IsOutOfRange() {
        term(5, "of people, habits also one with which there would be more than 1024.");
        fault("people 7;habits 3;", OUT, 16);
        fault("habits 3;people 7;", OUT, 16);
        fault("people 6;habits 4;", OUT, 16);
        fault("habits 4;people 6;", OUT, 16);
        fault("people 10;habits 4;", OUT, 17);
        fault("people 10;habits 3;", OUT, 17);
        fault("habits 4;people 10;", OUT, 16);
        fault("habits 3;people 10;", OUT, 16);
        // with the two that are untold, any people would do
        well("people 9;", 1);
        well("habits 4;", 1);
    }

    static void p05PersonsAndHabitsAsTheyAreTold() {
        term(5, "persons 0 .. people - 1, habits 0 .. habits - 1 as they are told by then.");
        well("people 10;habits 2;keeps 9 1;", 3);
        well("people 5;habits 4;keeps 4 3;", 3);
        fault("people 10;keeps 10 0;", OUT, 16);
        fault("people 3;keeps 3 0;", OUT, 15);
        fault("keeps 4 0;", OUT, 6);
        well("keeps 3 1;", 1);
        fault("keeps 0 2;", OUT, 8);
        fault("habits 3;keeps 0 3;", OUT, 17);
        fault("meets 4 0;", OUT, 6);
        fault("meets 0 4;", OUT, 8);
        fault("meets 0 1 1 4;", OUT, 12);
        fault("people 2;meets 0 2;", OUT, 17);
        fault("slip 2 1;", OUT, 5);
        well("habits 3;slip 2 1;", 2);
        fault("habits 3;slip 3 1;", OUT, 14);
        fault("worth 2 0 1;", OUT, 6);
        fault("worth 0 2 1;", OUT, 8);
        well("habits 4;worth 3 3 1;", 2);
        fault("habits 4;worth 4 3 1;", OUT, 15);
        fault("habits 4;worth 3 4 1;", OUT, 17);
    }

    static void p05WorthFromNothingTo99() {
        term(5, "worth i j v: what one with HABIT i gets who meets HABIT j: 0 .. 99 (1 for i = j, else 0).");
        CustomValley x = well("habits 4;worth 0 1 99;worth 2 2 0;", 3);
        due("told(41)", x.told(41), 99);
        due("told(44): not the other way round", x.told(44), 0);
        due("told(50)", x.told(50), 0);
        for (int i = 0; i < 4; i++) {
            for (int j = 0; j < 4; j++) {
                boolean untold = !(i == 0 && j == 1) && !(i == 2 && j == 2);
                if (untold) {
                    due("told(40 + 4 * " + i + " + " + j + ")", x.told(40 + 4 * i + j), i == j ? 1 : 0);
                }
            }
        }
        fault("worth 0 1 100;", OUT, 10);
        fault("worth 0 1 9999;", OUT, 10);
    }

    static void p05AllMeetAllIfNoMeetsIsTold() {
        term(5, "meets: pairs of unlike persons (all meet all, if no meets is told).");
        CustomValley all = well("people 10;", 1);
        for (int p = 0; p < 10; p++) {
            due("told(20 + " + p + ")", all.told(20 + p), 1023 & ~(1 << p));
        }
        CustomValley one = well("people 10;meets 9 0;", 2);
        for (int p = 0; p < 10; p++) {
            due("told(20 + " + p + ")", one.told(20 + p), p == 0 ? 512 : p == 9 ? 1 : 0);
        }
        CustomValley two = well("meets 0 1;stays;meets 1 2 3 0;", 3);
        int[] meets = {10, 5, 2, 1};
        for (int p = 0; p < 4; p++) {
            due("told(20 + " + p + ")", two.told(20 + p), meets[p]);
        }
    }

    static void p05BestIfNoAnswerIsTold() {
        term(5, "answer (best).");
        due("told(3)", well("stays;", 1).told(3), 0);
        due("told(3)", well("answer best;", 1).told(3), 0);
        due("told(3)", well("answer most;", 1).told(3), 1);
        due("told(3)", well("answer copy;", 1).told(3), 2);
    }

    static void p05KeepsAlways() {
        term(5, "keeps p i: person p always has HABIT i.");
        CustomValley x = well("habits 3;keeps 1 2;keeps 3 0;", 3);
        due("told(60)", x.told(60), NONE);
        due("told(61)", x.told(61), 2);
        due("told(62)", x.told(62), NONE);
        due("told(63)", x.told(63), 0);
        due("move(6, 1, 0)", x.move(6, 1, 0), NONE);
        due("move(6, 3, 1)", x.move(6, 3, 1), NONE);
    }

    static void p05SlipsCostOneToThree() {
        term(5, "slip i c: a slip to HABIT i costs 1 .. 3 (1).");
        fault("slip 0 0;", OUT, 7);
        fault("slip 0 4;", OUT, 7);
        CustomValley x = well("habits 4;slip 1 1;slip 2 2;slip 3 3;", 4);
        for (int i = 0; i < 4; i++) {
            due("told(10 + " + i + ")", x.told(10 + i), Math.max(1, i));
        }
    }

    static void p05PeopleAndHabitsStandAhead() {
        term(5, "people and habits must stand ahead of all clauses with persons or HABITS");
        term(5, "(else they are as untold, and can't be told any more).");
        well("stays;answer copy;habits 3;people 3;worth 2 2 5;", 5);
        well("people 3;stays;answer copy;habits 3;keeps 2 2;", 5);
        fault("people 3;slip 0 1;habits 3;", LATE, 18);
        fault("habits 3;slip 0 1;people 3;", LATE, 18);
        fault("slip 0 1;slip 2 1;", OUT, 14);
        fault("slip 0 1;keeps 4 0;", OUT, 15);
    }

    static void p05PlaceIsATokensFirstByte() {
        term(5, "FAULTS: KIND and PLACE (a TOKEN's first byte; the text's length at its end)");
        fault("  bad;", SYNTAX, 2);
        fault("people   11;", OUT, 9);
        fault("people\n\n0011;", OUT, 8);
        fault("stays; stays;", TWICE, 7);
        fault(" ".repeat(699) + "!", SYNTAX, 699);
        fault(" ".repeat(692) + "people11", OUT, 698);
    }

    static void p05PlaceAtTheEndIsTheLength() {
        term(5, "FAULTS: KIND and PLACE (a TOKEN's first byte; the text's length at its end)");
        fault("people", SYNTAX, 6);
        fault("people 3", SYNTAX, 8);
        fault("people 3 \n ", SYNTAX, 11);
        fault("meets 0", SYNTAX, 7);
        fault("meets 0 1", SYNTAX, 9);
        fault("meets 0 1 ", SYNTAX, 10);
        fault(" ".repeat(695) + "stays", SYNTAX, 700);
        fault("stays" + " ".repeat(695), SYNTAX, 700);
        // the bytes behind an end() are not of the text
        CustomValley x = new CustomValley();
        Due.put(x, "stays;");
        x.end(5);
        due("valley() of 'stays'", x.valley(), NONE);
        due("fault(1)", x.fault(1), 5);
    }

    static void p05TheFirstThatIsComeTo() {
        term(5, "the first come to as TOKENS are read one by one");
        fault("people 1;!", OUT, 7);
        fault("people 1", OUT, 7);
        fault("stays;stays!", TWICE, 6);
        fault("slip 0 1;people!", LATE, 9);
        fault("slip 0 1;people 99;", LATE, 9);
        fault("people 3;people 99;", TWICE, 9);
        fault("keeps 0 1;keeps 0 9;", TWICE, 16);
        fault("meets 0 0 9", TWICE, 8);
        fault("worth 9 9 100", OUT, 6);
        fault("answer best;answer worst;", TWICE, 12);
    }

    static void p05OfOneTokenTheLeastKind() {
        term(5, "of one TOKEN the least KIND");
        // people again and behind a clause with habits
        fault("people 4;slip 0 1;people 4;", TWICE, 18);
        fault("habits 2;keeps 0 1;habits 2;", TWICE, 19);
        fault("people 4;slip 0 1;habits 2;", LATE, 18);
        // no number, where one out of its bounds would be a fault too
        fault("people 00011;", SYNTAX, 7);
    }

    static void p05WithWhichNoTextGoesOn() {
        term(5, "1 SYNTAX: a TOKEN (or byte that is none, a run that is too long) with which no text goes on.");
        fault("people habits 3;", SYNTAX, 7);
        fault("people ;", SYNTAX, 7);
        fault("people 3 3;", SYNTAX, 9);
        fault("meets 0 ;", SYNTAX, 8);
        fault("meets 0 1 best;", SYNTAX, 10);
        fault("meets 0 stays;", SYNTAX, 8);
        fault("answer stays;", SYNTAX, 7);
        fault("answer people;", SYNTAX, 7);
        fault("most;", SYNTAX, 0);
        for (int b = 0; b < 256; b++) {
            if (b != 32 && b != 10) {
                fault("  " + (char) b + " ", SYNTAX, 2);
            }
        }
    }

    static void p05OutOfItsBounds() {
        term(5, "2 RANGE: an N out of its bounds");
        fault("people 1;", OUT, 7);
        fault("habits 5;", OUT, 7);
        fault("worth 2 0 0;", OUT, 6);
        fault("worth 0 2 0;", OUT, 8);
        fault("worth 0 0 100;", OUT, 10);
        fault("meets 4 0;", OUT, 6);
        fault("meets 0 4;", OUT, 8);
        fault("keeps 4 0;", OUT, 6);
        fault("keeps 0 2;", OUT, 8);
        fault("slip 2 1;", OUT, 5);
        fault("slip 0 4;", OUT, 7);
    }

    static void p05PeopleHabitsAnswerStaysAgain() {
        term(5, "3 TWICE: people, habits, answer, stays again");
        fault("people 4;people 4;", TWICE, 9);
        fault("habits 2;people 4;habits 2;", TWICE, 18);
        fault("answer best;answer best;", TWICE, 12);
        fault("answer copy;stays;answer best;", TWICE, 18);
        fault("stays;stays;", TWICE, 6);
        fault("stays;slip 0 1;stays;", TWICE, 15);
    }

    static void p05TheSecondHabitOfAWorth() {
        term(5, "the second HABIT of a worth, whose pair was told");
        fault("worth 0 1 5;worth 0 1 6;", TWICE, 20);
        fault("worth 1 1 1;worth 0 0 1;worth 1 1 1;", TWICE, 32);
        fault("habits 4;worth 3 3 1;worth 3 3 1;", TWICE, 29);
        CustomValley x = well("worth 0 1 5;worth 1 0 6;worth 0 0 7;worth 1 1 8;", 4);
        due("told(41)", x.told(41), 5);
        due("told(44)", x.told(44), 6);
        StringBuilder b = new StringBuilder("habits 4;");
        for (int i = 0; i < 16; i++) {
            b.append("worth ").append(i / 4).append(' ').append(i % 4).append(' ').append(i).append(';');
        }
        CustomValley y = well(b.toString(), 17);
        for (int i = 0; i < 16; i++) {
            due("told(40 + " + i + ")", y.told(40 + i), i);
        }
    }

    static void p05TheSecondPersonOfAPair() {
        term(5, "the second person of a pair of meets that is the first, or a pair that was told (either way round)");
        fault("meets 0 0;", TWICE, 8);
        fault("meets 0 1 3 3;", TWICE, 12);
        fault("meets 0 1 0 1;", TWICE, 12);
        fault("meets 0 1 1 0;", TWICE, 12);
        fault("meets 0 1;meets 1 0;", TWICE, 18);
        fault("people 10;meets 9 8;meets 8 9;", TWICE, 28);
        well("meets 0 1 0 2 0 3 1 2 1 3 2 3;", 1);
        well("meets 1 0 2 0 3 0 2 1 3 1 3 2;", 1);
    }

    static void p05ThePersonOfKeepsTheHabitOfSlip() {
        term(5, "the person of keeps, the HABIT of slip, that was told.");
        fault("keeps 0 1;keeps 0 1;", TWICE, 16);
        fault("keeps 3 0;keeps 2 0;keeps 3 1;", TWICE, 26);
        well("keeps 0 0;keeps 1 0;keeps 2 0;keeps 3 0;", 4);
        fault("slip 0 1;slip 0 1;", TWICE, 14);
        fault("slip 1 3;slip 0 1;slip 1 2;", TWICE, 23);
        well("habits 4;slip 0 1;slip 1 1;slip 2 1;slip 3 1;", 5);
    }

    static void p05WhatATextBeforeToldIsNotTold() {
        term(5, "3 TWICE: people, habits, answer, stays again");
        String text = "people 3;habits 3;worth 0 1 7;worth 2 2 9;meets 0 1 1 2;answer copy;stays;keeps 0 1;slip 2 2;";
        CustomValley x = new CustomValley();
        for (int i = 0; i < 3; i++) {
            due("valley() again", Due.read(x, text), 9);
            due("valley() with a fault at its end", Due.read(x, text + "stays;"), NONE);
            due("fault(0)", x.fault(0), TWICE);
        }
        due("valley(): people may be told again", Due.read(x, "people 4;habits 2;slip 0 1;"), 3);
    }

    static void p05BehindAClauseWithPersonsOrHabits() {
        term(5, "4 LATE: people, habits behind a clause with persons or HABITS (worth, meets, keeps, slip).");
        for (String clause : new String[] {"worth 0 0 1;", "meets 0 1;", "keeps 0 0;", "slip 0 1;"}) {
            fault(clause + "people 4;", LATE, clause.length());
            fault(clause + "habits 2;", LATE, clause.length());
            fault(clause + "stays;people 4;", LATE, clause.length() + 6);
            well(clause + "stays;answer most;", 3);
        }
        well("stays;people 4;", 2);
        well("answer copy;habits 3;", 2);
    }
}
