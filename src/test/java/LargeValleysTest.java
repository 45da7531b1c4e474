import java.util.Random;

/** Valleys of some hundred STATES up to 1024, for which the plain forms take their time. */
public final class LargeValleysTest {
    public static void main(String[] args) {
        largest("people 10;meets 0 1 1 2 2 3 3 4 4 5 5 6 6 7 7 8 8 9 9 0;slip 1 2;");
        largest("people 10;meets 0 1 1 2 2 0 3 4 4 5 5 3 6 7 8 9;answer most;keeps 9 1;");
        largest("people 10;meets 0 1 1 2 2 3 3 4 4 0 5 6 6 7 7 5 8 9;answer copy;worth 0 1 2;keeps 4 0;stays;");
        largest("people 5;habits 4;worth 0 1 2;worth 3 2 5;slip 1 3;");
        largest("people 6;habits 3;meets 0 1 1 2 2 3 3 4 4 5;answer copy;worth 2 0 3;slip 0 2;");
        boundsAndGifts("people 6;meets 0 1 1 2 2 3 3 4 4 5 5 0;worth 0 0 3;worth 1 1 2;");
        boundsAndGifts("people 6;answer copy;worth 0 0 3;worth 1 0 4;worth 1 1 2;stays;");
        boundsAndGifts("people 4;habits 3;worth 0 0 30;worth 1 1 40;worth 2 1 38;slip 2 2;");
        boundsAndGifts("people 3;habits 4;answer most;keeps 1 3;");
        boundsAndGifts("people 3;habits 4;answer copy;worth 0 0 5;worth 1 2 6;worth 3 3 4;worth 0 3 2;meets 0 1 1 2;");
        boundsAndGifts("people 6;slip 1 3;meets 3 0 3 1 5 0 5 2;stays;");
        boundsAndGifts("people 5;worth 0 0 0;meets 1 0 3 0 3 1 3 2 4 1;answer copy;stays;");
        boundsAndGifts("people 5;meets 0 1;stays;");
        quick();
        Due.finish("LargeValleysTest");
    }

    private static NaiveValley naive(CustomValley x) {
        NaiveValley v = new NaiveValley();
        v.people = x.told(0);
        v.habits = x.told(1);
        v.answer = x.told(3);
        v.stays = x.told(4) == 1;
        for (int p = 0; p < v.people; p++) {
            v.keeps[p] = x.told(60 + p);
            for (int q = 0; q < v.people; q++) {
                v.meets[p][q] = (x.told(20 + p) >> q & 1) != 0;
            }
        }
        for (int i = 0; i < v.habits; i++) {
            v.slip[i] = x.told(10 + i);
            for (int j = 0; j < v.habits; j++) {
                v.gets[i][j] = x.told(40 + 4 * i + j);
            }
        }
        v.solve();
        return v;
    }

    private static void largest(String text) {
        CustomValley x = Due.of(text);
        NaiveValley v = naive(x);
        int n = v.rests.size();
        Due.due("rests() " + text, x.rests(), n);
        for (int k = 0; k < n && k < 12; k++) {
            Due.due("rest(" + k + ", 0) " + text, x.rest(k, 0), v.rests.get(k).get(0));
            Due.due("rest(" + k + ", 1) " + text, x.rest(k, 1), v.rests.get(k).size());
            Due.due("rest(" + k + ", 2) " + text, x.rest(k, 2), v.basin(k));
            Due.due("radius(" + k + ") " + text, x.radius(k), v.radius(k));
            Due.due("coradius(" + k + ") " + text, x.coradius(k), v.coradius(k));
            Due.due("tree(" + k + ") " + text, x.tree(k), n > 12 ? -3 : v.treeSum(k, null));
        }
        Due.due("winners() " + text, x.winners(), n > 12 ? -3 : v.winners());
        Due.due("shortly() " + text, x.shortly(), v.shortly());
        Random r = new Random(text.length());
        for (int i = 0; i < 200; i++) {
            int s = v.states.get(r.nextInt(v.states.size()));
            int t = v.states.get(r.nextInt(v.states.size()));
            Due.due("fewest(" + s + ", " + t + ") " + text, x.fewest(s, t), v.cost[s][t]);
            int at = s;
            for (int j = 1; j <= x.way(-1); j++) {
                int next = x.way(j);
                int paid = v.cost[at][t] - v.cost[next][t];
                Due.due("way goes down " + text, paid >= 0 ? 1 : 0, 1);
                Due.due("way moves one " + text, v.cost[at][next] == paid ? 1 : 0, 1);
                at = next;
            }
            Due.due("way ends " + text, at, t);
        }
        for (int h = 0; h < v.habits; h++) {
            Due.due("carried(" + h + ", 0) " + text, x.carried(h, 0), v.carried(h, 0));
        }
        long[] parts = v.flow(v.states.get(0), 4, 3);
        x.flow(v.states.get(0), 4, 3);
        for (int s : v.states) {
            Due.due("parts(" + s + ") " + text, x.parts(s), parts[s]);
        }
    }

    private static void boundsAndGifts(String text) {
        CustomValley x = Due.of(text);
        NaiveValley v = naive(x);
        for (int h = 0; h < v.habits; h++) {
            Due.due("bound(" + h + ") " + text, x.bound(h), v.bound(h));
            Due.due("gift(" + h + ") " + text, x.gift(h), v.gift(h));
        }
    }

    /** The dearest calls, many times over, on the largest valleys: none may take long. */
    private static void quick() {
        String[] texts = {"people 10;", "people 10;worth 0 0 0;worth 1 1 0;stays;slip 0 3;slip 1 3;",
            "people 5;habits 4;meets 0 1 1 2 2 3 3 4;worth 0 0 30;worth 1 1 20;worth 2 2 29;answer copy;"};
        long start = System.nanoTime();
        for (String text : texts) {
            CustomValley x = Due.of(text);
            int last = x.told(5) - 1;
            for (int i = 0; i < 20; i++) {
                x.see(0, i, i % 2 == 0 ? 0 : last);
            }
            for (int i = 0; i < 25; i++) {
                x.fewest(0, last);
                x.flow(last, 400, 2 + i);
                x.run(0, i, 5000, 2);
                x.likeliest(0);
                x.shortly();
                x.bound(i % 4);
                x.gift(i % 4);
                x.comes(i, 0);
                x.tree(0);
                x.winners();
                x.coradius(0);
            }
        }
        long seconds = (System.nanoTime() - start) / 1_000_000_000L;
        Due.due("seconds for the dearest calls are few", seconds < 60 ? 1 : 0, 1);
    }
}
