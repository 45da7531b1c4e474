import java.util.List;
import java.util.Random;

/** Valleys by seeds; every call is held against the plain forms of NaiveValley. */
public final class RandomValleysTest {
    private static final int VALLEYS = 400;

    public static void main(String[] args) {
        int valleys = args.length > 0 ? Integer.parseInt(args[0]) : VALLEYS;
        long from = args.length > 1 ? Long.parseLong(args[1]) : 0;
        CustomValley used = new CustomValley();
        for (int i = 0; i < valleys; i++) {
            Random r = new Random(from + i);
            NaiveValley v = random(r);
            boolean meetsTold = r.nextInt(3) != 0;
            if (meetsTold) {
                meetSome(v, r);
            } else {
                v.meetAll();
            }
            boolean any = false;
            for (int p = 0; p < v.people; p++) {
                any |= v.meetBits(p) != 0;
            }
            if (!any) {
                v.meetAll();
                meetsTold = false;
            }
            CustomValley x = r.nextBoolean() ? new CustomValley() : used;
            String text = v.text(r, meetsTold);
            if (text.length() > 700) {
                continue;
            }
            if (Due.read(x, text) < 0) {
                Due.due("valley() " + text, -1, 0);
                continue;
            }
            v.solve();
            int before = Due.wrong();
            compare(x, v, r);
            if (Due.wrong() != before) {
                System.out.println("  in valley " + (from + i) + ": " + text);
            }
        }
        Due.finish("RandomValleysTest");
    }

    private static NaiveValley random(Random r) {
        NaiveValley v = new NaiveValley();
        int[][] sizes = {{2, 2}, {3, 2}, {4, 2}, {5, 2}, {6, 2}, {7, 2}, {2, 3}, {3, 3}, {4, 3}, {2, 4}, {3, 4}};
        int[] size = sizes[r.nextInt(sizes.length)];
        v.people = size[0];
        v.habits = size[1];
        v.answer = r.nextInt(3);
        v.stays = r.nextInt(3) == 0;
        int top = new int[] {2, 4, 10, 100}[r.nextInt(4)];
        for (int i = 0; i < v.habits; i++) {
            for (int j = 0; j < v.habits; j++) {
                if (r.nextInt(3) != 0) {
                    v.gets[i][j] = r.nextInt(top);
                }
            }
            if (r.nextInt(3) == 0) {
                v.slip[i] = 1 + r.nextInt(3);
            }
        }
        for (int p = 0; p < v.people; p++) {
            if (r.nextInt(7) == 0) {
                v.keeps[p] = r.nextInt(v.habits);
            }
        }
        return v;
    }

    private static void meetSome(NaiveValley v, Random r) {
        int odds = 1 + r.nextInt(4);
        for (int p = 0; p < v.people; p++) {
            for (int q = 0; q < p; q++) {
                if (r.nextInt(4) < odds) {
                    v.meets[p][q] = true;
                    v.meets[q][p] = true;
                }
            }
        }
    }

    private static void compare(CustomValley x, NaiveValley v, Random r) {
        compareTold(x, v);
        compareStates(x, v);
        compareRests(x, v);
        compareCosts(x, v, r);
        compareTrees(x, v);
        compareHabits(x, v);
        compareChances(x, v, r);
        compareSeen(x, v, r);
    }

    private static void compareTold(CustomValley x, NaiveValley v) {
        Due.due("told(0)", x.told(0), v.people);
        Due.due("told(1)", x.told(1), v.habits);
        Due.due("told(2)", x.told(2), v.freeBits());
        Due.due("told(3)", x.told(3), v.answer);
        Due.due("told(4)", x.told(4), v.stays ? 1 : 0);
        Due.due("told(5)", x.told(5), v.states.size());
        for (int i = 0; i < 5; i++) {
            Due.due("told(10 + " + i + ")", x.told(10 + i), i < v.habits ? v.slip[i] : -1);
        }
        for (int p = 0; p < 11; p++) {
            Due.due("told(20 + " + p + ")", x.told(20 + p), p < v.people ? v.meetBits(p) : -1);
            Due.due("told(60 + " + p + ")", x.told(60 + p), p < v.people ? v.keeps[p] : -1);
        }
        for (int i = 0; i < 5; i++) {
            for (int j = 0; j < 4; j++) {
                int want = i < v.habits && j < v.habits ? v.gets[i][j] : -1;
                Due.due("told(40 + 4 * " + i + " + " + j + ")", x.told(40 + 4 * i + j), want);
            }
        }
    }

    private static void compareStates(CustomValley x, NaiveValley v) {
        for (int s = -1; s <= v.codes; s++) {
            for (int p = -1; p <= v.people; p++) {
                boolean well = v.isState(s) && p >= 0 && p < v.people;
                String of = "(" + s + ", " + p + ")";
                Due.due("habit" + of, x.habit(s, p), well ? v.decode(s)[p] : -2);
                Due.due("worth" + of, x.worth(s, p), well ? v.worth(s, p) : -2);
                Due.due("answers" + of, x.answers(s, p), well ? v.answers(s, p) : -2);
                for (int a = -1; a <= v.habits; a++) {
                    boolean may = well && a >= 0 && a < v.habits;
                    int want = !may ? -2 : v.free(p) ? v.with(s, p, a) : -1;
                    Due.due("move(" + s + ", " + p + ", " + a + ")", x.move(s, p, a), want);
                }
            }
        }
    }

    private static void compareRests(CustomValley x, NaiveValley v) {
        int n = v.rests.size();
        Due.due("rests()", x.rests(), n);
        for (int k = -1; k <= n; k++) {
            boolean well = k >= 0 && k < n;
            List<Integer> set = well ? v.rests.get(k) : List.of();
            Due.due("rest(" + k + ", 0)", x.rest(k, 0), well ? set.get(0) : -1);
            Due.due("rest(" + k + ", 1)", x.rest(k, 1), well ? set.size() : -1);
            Due.due("rest(" + k + ", 2)", x.rest(k, 2), well ? v.basin(k) : -1);
            for (int what = 3; what < 10; what++) {
                Due.due("rest(" + k + ", " + what + ")", x.rest(k, what), -1);
            }
            for (int i = 0; i <= set.size(); i++) {
                Due.due("rest(" + k + ", 10 + " + i + ")", x.rest(k, 10 + i), i < set.size() ? set.get(i) : -1);
            }
            for (int s = -1; s <= v.codes; s++) {
                int want = well && v.isState(s) ? (v.comes(s, k) ? 1 : 0) : -2;
                Due.due("comes(" + s + ", " + k + ")", x.comes(s, k), want);
            }
        }
        for (int s = -1; s <= v.codes; s++) {
            Due.due("restOf(" + s + ")", x.restOf(s), v.isState(s) ? v.home[s] : -2);
        }
    }

    private static void compareCosts(CustomValley x, NaiveValley v, Random r) {
        Due.due("way(-1) ahead", x.way(-1), -1);
        Due.due("way(0) ahead", x.way(0), -1);
        for (int i = 0; i < 12; i++) {
            int s = v.states.get(r.nextInt(v.states.size()));
            int t = v.states.get(r.nextInt(v.states.size()));
            Due.due("fewest(" + s + ", " + t + ")", x.fewest(s, t), v.cost[s][t]);
            List<Integer> way = v.way(s, t);
            Due.due("fewest(-1, 0)", x.fewest(-1, t), -2);
            Due.due("fewest(0, codes)", x.fewest(s, v.codes), -2);
            Due.due("way(-1)", x.way(-1), way.size() - 1);
            for (int j = 0; j <= way.size(); j++) {
                Due.due("way(" + j + ") of " + s + " to " + t, x.way(j), j < way.size() ? way.get(j) : -1);
            }
        }
        int n = v.rests.size();
        for (int a = -1; a <= Math.min(n, 30); a++) {
            for (int b = -1; b <= Math.min(n, 30); b++) {
                boolean well = a >= 0 && a < n && b >= 0 && b < n;
                Due.due("between(" + a + ", " + b + ")", x.between(a, b), well ? v.between(a, b) : -2);
            }
        }
    }

    private static void compareTrees(CustomValley x, NaiveValley v) {
        int n = v.rests.size();
        Due.due("treeTo(0) ahead", x.treeTo(0), -1);
        Due.due("tree(-1)", x.tree(-1), -2);
        Due.due("tree(n)", x.tree(n), -2);
        Due.due("winners()", x.winners(), n > 12 ? -3 : v.winners());
        for (int k = 0; k < n; k++) {
            Due.due("tree(" + k + ")", x.tree(k), n > 12 ? -3 : v.treeSum(k, null));
            if (n <= 8) {
                int[] row = v.treeRow(k);
                for (int i = -1; i <= n; i++) {
                    Due.due("treeTo(" + i + ") of " + k, x.treeTo(i), i >= 0 && i < n ? row[i] : -1);
                }
            }
        }
        for (int k = -1; k <= n; k++) {
            boolean well = k >= 0 && k < n;
            Due.due("radius(" + k + ")", x.radius(k), well ? v.radius(k) : -2);
            Due.due("coradius(" + k + ")", x.coradius(k), well ? v.coradius(k) : -2);
        }
        Due.due("shortly()", x.shortly(), v.shortly());
    }

    private static void compareHabits(CustomValley x, NaiveValley v) {
        for (int h = -1; h <= v.habits; h++) {
            boolean well = h >= 0 && h < v.habits;
            for (int g = -1; g <= v.habits; g++) {
                boolean both = well && g >= 0 && g < v.habits;
                Due.due("carried(" + h + ", " + g + ")", x.carried(h, g), both ? v.carried(h, g) : -2);
            }
            boolean many = v.people > 6;
            boolean dear = v.codes > 32;
            if (!well || many || !dear) {
                Due.due("bound(" + h + ")", x.bound(h), !well ? -2 : many ? -3 : v.bound(h));
                Due.due("gift(" + h + ")", x.gift(h), !well ? -2 : many ? -3 : v.gift(h));
            }
        }
    }

    private static void compareChances(CustomValley x, NaiveValley v, Random r) {
        Due.due("parts ahead", x.parts(v.states.get(0)), -1);
        Due.due("partsOf ahead", x.partsOf(0), -1);
        Due.due("ran ahead", x.ran(0), -1);
        int s = v.states.get(r.nextInt(v.states.size()));
        int rounds = r.nextInt(12);
        int q = 2 + r.nextInt(r.nextBoolean() ? 4 : 999);
        Due.due("flow", x.flow(s, rounds, q), 1);
        Due.due("flow(-1)", x.flow(-1, rounds, q), -2);
        long[] parts = v.flow(s, rounds, q);
        for (int t = -1; t <= v.codes; t++) {
            Due.due("parts(" + t + ")", x.parts(t), v.isState(t) ? parts[t] : -1);
        }
        for (int k = 0; k < v.rests.size(); k++) {
            Due.due("partsOf(" + k + ")", x.partsOf(k), v.rests.get(k).stream().mapToLong(t -> parts[t]).sum());
        }
        int seed = r.nextInt() & 0x7fffffff;
        int steps = 1 + r.nextInt(60);
        boolean nobody = v.freeBits() == 0;
        int[] told = nobody ? null : v.run(s, seed, steps, q);
        Due.due("run", x.run(s, seed, steps, q), nobody ? -4 : told[0]);
        for (int what = 0; what < 3; what++) {
            Due.due("ran(" + what + ")", x.ran(what), nobody ? -1 : told[1 + what]);
        }
        for (int p = -1; p <= v.people; p++) {
            boolean well = !nobody && p >= 0 && p < v.people;
            Due.due("ran(10 + " + p + ")", x.ran(10 + p), well ? told[4 + p] : -1);
        }
        byte[] row = new byte[2 * r.nextInt(12)];
        for (int i = 0; i < row.length; i++) {
            int last = r.nextInt(20) == 0 ? 256 : i % 2 == 0 ? v.people : v.habits;
            row[i] = (byte) (last == 256 ? r.nextInt(256) : 48 + r.nextInt(last));
        }
        Due.put(x, row);
        int[] judged = v.judge(s, row);
        Due.due("judge", x.judge(s), judged[0]);
        for (int what = 0; what < 4; what++) {
            Due.due("judged(" + what + ")", x.judged(what), judged[1 + what]);
        }
        Due.due("count(3)", x.count(3), 0);
    }

    private static void compareSeen(CustomValley x, NaiveValley v, Random r) {
        int n = r.nextInt(6);
        int[] day = new int[n];
        int[] step = new int[n];
        int[][] known = new int[12][n];
        int at = 0;
        for (int i = 0; i < n; i++) {
            day[i] = 3 * i + r.nextInt(3);
            at = Math.min(11, at + r.nextInt(3));
            step[i] = at;
            int s = v.states.get(r.nextInt(v.states.size()));
            Due.due("see", x.see(at, day[i], s), i);
            for (int k = 0; k < 12; k++) {
                known[k][i] = k < at ? -1 : s;
            }
            if (r.nextInt(2) == 0) {
                int which = r.nextInt(i + 1);
                int t = v.states.get(r.nextInt(v.states.size()));
                at = Math.min(11, at + r.nextInt(2));
                int often = x.right(at, which, t);
                Due.due("right", often > 0 ? 1 : often, 1);
                for (int k = at; k < 12; k++) {
                    known[k][which] = t;
                }
            }
        }
        NaiveValley[] by = new NaiveValley[3];
        for (int a = 0; a < 3; a++) {
            by[a] = v.copy();
            by[a].answer = a;
            by[a].solve();
        }
        for (int k = 0; k < 12; k++) {
            int likeliest = -1;
            int least = NaiveValley.FAR;
            for (int a = 0; a < 3; a++) {
                int sum = 0;
                int last = -1;
                for (int i = 0; i < n; i++) {
                    if (known[k][i] >= 0) {
                        sum += last < 0 ? 0 : by[a].cost[last][known[k][i]];
                        last = known[k][i];
                    }
                }
                Due.due("explained(" + k + ", " + a + ")", x.explained(k, a), sum);
                if (sum < least) {
                    least = sum;
                    likeliest = a;
                }
            }
            Due.due("likeliest(" + k + ")", x.likeliest(k), likeliest);
        }
    }
}
