/** Promises 1 to 3: a new object and the tape. */
final class TapeEdges extends Edge {
    private static final int BLANKS = 0x20202020;

    private TapeEdges() {
    }

    static void p01FourPeopleWhoAllMeet() {
        promise(1, "Four people who all meet, two HABITS, best.");
        CustomValley x = new CustomValley();
        due("told(0)", x.told(0), 4);
        due("told(2)", x.told(2), 15);
        int[] meets = {14, 13, 11, 7, NONE};
        for (int p = 0; p < 5; p++) {
            due("told(20 + " + p + ")", x.told(20 + p), meets[p]);
            due("told(60 + " + p + ")", x.told(60 + p), NONE);
        }
        due("habit(0, 3)", x.habit(0, 3), 0);
        due("habit(0, 4)", x.habit(0, 4), RANGE);
    }

    static void p01TwoHabitsAndBest() {
        promise(1, "Four people who all meet, two HABITS, best.");
        CustomValley x = new CustomValley();
        due("told(1)", x.told(1), 2);
        due("told(3)", x.told(3), 0);
        due("told(4)", x.told(4), 0);
        due("told(5)", x.told(5), 16);
        due("told(10)", x.told(10), 1);
        due("told(11)", x.told(11), 1);
        due("told(12)", x.told(12), NONE);
        due("move(0, 0, 1)", x.move(0, 0, 1), 1);
        due("move(0, 0, 2)", x.move(0, 0, 2), RANGE);
        due("told(40)", x.told(40), 1);
        due("told(41)", x.told(41), 0);
        due("told(44)", x.told(44), 0);
        due("told(45)", x.told(45), 1);
    }

    static void p01NothingHasBeenToldYet() {
        promise(1, "Four people who all meet, two HABITS, best.");
        CustomValley x = new CustomValley();
        for (int i = 0; i < 4; i++) {
            due("count(" + i + ")", x.count(i), 0);
            due("judged(" + i + ")", x.judged(i), NONE);
            due("ran(" + i + ")", x.ran(i), NONE);
            due("ran(10 + " + i + ")", x.ran(10 + i), NONE);
            due("way(" + (i - 1) + ")", x.way(i - 1), NONE);
            due("treeTo(" + i + ")", x.treeTo(i), NONE);
            due("parts(" + i + ")", x.parts(i), NONE);
            due("partsOf(" + i + ")", x.partsOf(i), NONE);
        }
        due("explained(0, 0)", x.explained(0, 0), 0);
        due("valley() of an empty tape", x.valley(), 0);
    }

    static void p01NoObjectKnowsOfAnother() {
        promise(1, "Four people who all meet, two HABITS, best.");
        CustomValley x = busy();
        CustomValley y = new CustomValley();
        due("told(3) of the new one", y.told(3), 0);
        due("told(11) of the new one", y.told(11), 1);
        due("count(1) of the new one", y.count(1), 0);
        due("count(3) of the new one", y.count(3), 0);
        due("way(-1) of the new one", y.way(-1), NONE);
        Due.read(y, "people 2;");
        y.see(0, 0, 0);
        due("told(0) of the old one", x.told(0), 4);
        due("count(1) of the old one", x.count(1), 2);
        due("count(3) of the old one", x.count(3), 20);
    }

    static void p02HighestByteOfEachIntIsFirst() {
        promise(2, "Twenty bytes come behind THE TAPE, the highest of each int first");
        CustomValley x = new CustomValley();
        // peop le 3 ;hab its  3;
        x.feed(0x70656f70, 0x6c652033, 0x3b686162, 0x69747320, 0x333b2020);
        due("valley()", x.valley(), 2);
        due("told(0)", x.told(0), 3);
        due("told(1)", x.told(1), 3);
    }

    static void p02AllTwentyComeInTheirPlaces() {
        promise(2, "Twenty bytes come behind THE TAPE, the highest of each int first");
        CustomValley x = new CustomValley();
        for (int at = 0; at < 20; at++) {
            int[] five = {BLANKS, BLANKS, BLANKS, BLANKS, BLANKS};
            five[at / 4] ^= ('!' ^ ' ') << (24 - 8 * (at % 4));
            x.feed(five[0], five[1], five[2], five[3], five[4]);
            due("valley() with a wrong byte at " + at, x.valley(), NONE);
            due("fault(1) with a wrong byte at " + at, x.fault(1), at);
        }
    }

    static void p02BytesAbove127AreBytes() {
        promise(2, "Twenty bytes come behind THE TAPE, the highest of each int first");
        CustomValley x = new CustomValley();
        due("feed(-1, ..)", x.feed(-1, LOW, HIGH, -1, -1), 20);
        due("valley()", x.valley(), NONE);
        due("fault(0)", x.fault(0), 1);
        due("fault(1)", x.fault(1), 0);
        // 176 is 48 and 128: a byte that lost its highest bit would be person 0 with habit 0
        x.feed(0xb0b03030, 0, 0, 0, 0);
        x.end(4);
        due("judge(0) with 176 for a person", x.judge(0), 0);
        x.feed(0x30b03030, 0, 0, 0, 0);
        x.end(4);
        due("judge(0) with 176 for a habit", x.judge(0), 0);
    }

    static void p02BehindWhatStands() {
        promise(2, "Twenty bytes come behind THE TAPE, the highest of each int first");
        CustomValley x = new CustomValley();
        x.feed(0x73746121, 0x21212121, 0x21212121, 0x21212121, 0x21212121);
        x.end(3);
        due("feed behind three", x.feed(0x79733b20, BLANKS, BLANKS, BLANKS, BLANKS), 23);
        due("valley() of 'sta' and 'ys;'", x.valley(), 1);
        due("told(4)", x.told(4), 1);
    }

    static void p02HowManyItHas() {
        promise(2, "how many it has");
        CustomValley x = new CustomValley();
        for (int i = 1; i <= 35; i++) {
            due("feed number " + i, x.feed(i, 0, 0, 0, 0), 20 * i);
            due("count(3)", x.count(3), 20 * i);
        }
        x.end(7);
        due("feed behind seven", x.feed(0, 0, 0, 0, 0), 27);
    }

    static void p02SevenHundredIsNotTooMuch() {
        promise(2, "FULL when there would be more than 700.");
        CustomValley x = new CustomValley();
        Due.put(x, " ".repeat(680));
        due("feed behind 680", x.feed(0, 0, 0, 0, 0), 700);
        Due.put(x, " ".repeat(679));
        due("feed behind 679", x.feed(0, 0, 0, 0, 0), 699);
    }

    static void p02MoreThanSevenHundredIsFull() {
        promise(2, "FULL when there would be more than 700.");
        for (int n : new int[] {681, 682, 690, 699, 700}) {
            CustomValley x = new CustomValley();
            Due.put(x, " ".repeat(n));
            refused(x, "feed behind " + n, () -> x.feed(0, 0, 0, 0, 0), FULL);
            due("count(3)", x.count(3), n);
        }
    }

    static void p02FullLeavesTheBytesAsTheyWere() {
        promise(2, "FULL when there would be more than 700.");
        CustomValley x = new CustomValley();
        Due.put(x, " ".repeat(675) + "stays;");
        due("feed behind 681", x.feed(-1, -1, -1, -1, -1), FULL);
        due("valley()", x.valley(), 1);
        Due.put(x, " ".repeat(694) + "stays;");
        due("feed behind 700", x.feed(-1, -1, -1, -1, -1), FULL);
        due("valley()", x.valley(), 1);
        due("feed on the tape that was read", x.feed(0, 0, 0, 0, 0), 20);
    }

    static void p02TheLastOfSevenHundredIsRead() {
        term(2, "THE TAPE has at most 700 bytes");
        CustomValley x = new CustomValley();
        Due.put(x, " ".repeat(694) + "stays;");
        due("count(3)", x.count(3), 700);
        due("valley() of 700 bytes", x.valley(), 1);
        Due.put(x, " ".repeat(699) + "!");
        due("valley() with a wrong last byte", x.valley(), NONE);
        due("fault(1)", x.fault(1), 699);
    }

    static void p03FirstBytesAlone() {
        promise(3, "THE TAPE has its first n bytes alone: n");
        CustomValley x = new CustomValley();
        Due.put(x, "people 3;people 5;xx");
        due("end(9)", x.end(9), 9);
        due("count(3)", x.count(3), 9);
        due("valley()", x.valley(), 1);
        due("told(0)", x.told(0), 3);
    }

    static void p03NoneAndAllOfThem() {
        promise(3, "THE TAPE has its first n bytes alone: n");
        CustomValley x = new CustomValley();
        due("end(0) of an empty tape", x.end(0), 0);
        Due.put(x, "x".repeat(20));
        due("end(20) of twenty", x.end(20), 20);
        due("count(3)", x.count(3), 20);
        due("end(19)", x.end(19), 19);
        due("end(0)", x.end(0), 0);
        due("count(3)", x.count(3), 0);
        due("valley() of nothing", x.valley(), 0);
        Due.put(x, " ".repeat(700));
        due("end(700) of 700", x.end(700), 700);
    }

    static void p03NotSoMany() {
        promise(3, "NONE when it has not so many");
        CustomValley x = busy();
        for (int n : new int[] {21, 22, 700, 701, HIGH}) {
            refused(x, "end(" + n + ") of twenty", () -> x.end(n), NONE);
        }
        due("valley(): the bytes are as they were", x.valley(), 1);
        due("end(1) of an empty tape", x.end(1), NONE);
        Due.put(x, " ".repeat(700));
        due("end(701) of 700", x.end(701), NONE);
    }

    static void p03WhatWasCutOffDoesNotComeBack() {
        promise(3, "NONE when it has not so many");
        CustomValley x = new CustomValley();
        Due.put(x, "x".repeat(20));
        x.end(9);
        due("end(10) behind end(9)", x.end(10), NONE);
        due("count(3)", x.count(3), 9);
        due("end(9)", x.end(9), 9);
    }

    static void p03BelowZero() {
        promise(3, "or n is below 0.");
        CustomValley x = busy();
        for (int n : new int[] {-1, -20, LOW}) {
            refused(x, "end(" + n + ") of twenty", () -> x.end(n), NONE);
        }
        due("valley(): the bytes are as they were", x.valley(), 1);
        due("end(-1) of an empty tape", x.end(-1), NONE);
    }

    static void p04ReadingEmptiesTheTape() {
        term(4, "each call that reads it empties it, whatever it tells.");
        CustomValley x = new CustomValley();
        Due.put(x, "stays;");
        due("valley()", x.valley(), 1);
        due("count(3)", x.count(3), 0);
        Due.put(x, "stays;stays;");
        due("valley() with a fault in its midst", x.valley(), NONE);
        due("count(3) behind a fault", x.count(3), 0);
        due("valley() again: nothing is left", x.valley(), 0);
    }

    static void p32ReadingEmptiesTheTape() {
        term(32, "each call that reads it empties it, whatever it tells.");
        CustomValley x = new CustomValley();
        String[] rows = {"01", "0191", "011", "0", "00".repeat(61), "01"};
        int[] states = {0, 0, 0, 0, 0, 16};
        int[] told = {1, 1, NONE, NONE, NONE, RANGE};
        for (int i = 0; i < rows.length; i++) {
            Due.put(x, rows[i]);
            due("judge(" + states[i] + ") of " + rows[i], x.judge(states[i]), told[i]);
            due("count(3) behind " + rows[i], x.count(3), 0);
        }
    }
}
