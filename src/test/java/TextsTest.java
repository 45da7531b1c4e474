import java.util.ArrayList;
import java.util.HashMap;
import java.util.HashSet;
import java.util.List;
import java.util.Map;
import java.util.Random;
import java.util.Set;

/** Texts by seeds, most of them broken: the fault and what is told, against a reader driven by a table. */
public final class TextsTest {
    private static final int TEXTS = 60000;

    /** What may stand behind each clause's word: a slot each, as slot() says. */
    private static final Map<String, String> SLOTS = Map.of("people", "p", "habits", "h", "worth", "WJV",
            "meets", "PQ", "answer", "A", "stays", "", "keeps", "KH", "slip", "SC");

    private record Token(String text, int place) {
    }

    private static final class PlainReader {
        final Map<String, Integer> told = new HashMap<>();
        final Set<String> once = new HashSet<>();
        int people = 4;
        int habits = 2;
        int clauses;
        int kind;
        int place = -1;

        static List<Token> tokens(String text) {
            List<Token> list = new ArrayList<>();
            java.util.regex.Matcher m = java.util.regex.Pattern.compile("[a-z]+|[0-9]+|[^ \n]", java.util.regex.Pattern.DOTALL)
                    .matcher(text);
            while (m.find()) {
                list.add(new Token(m.group(), m.start()));
            }
            list.add(new Token("", text.length()));
            return list;
        }

        void read(String text) {
            String state = "clause";
            String rest = "";
            int first = 0;
            for (Token t : tokens(text)) {
                Set<Integer> faults = new HashSet<>();
                if (state.equals("clause")) {
                    if (t.text().isEmpty()) {
                        return;
                    }
                    rest = SLOTS.get(t.text());
                    if (rest == null) {
                        faults.add(1);
                    } else {
                        wordFaults(t.text(), faults);
                        state = t.text();
                        if (Set.of("worth", "meets", "keeps", "slip").contains(state)) {
                            once.add("late");
                        }
                    }
                } else if (rest.isEmpty() && t.text().equals(";")) {
                    clauses++;
                    state = "clause";
                } else if (rest.isEmpty() && !(state.equals("meets") && isNumber(t.text()))) {
                    faults.add(1);
                } else {
                    rest = rest.isEmpty() ? "PQ" : rest;
                    first = slot(rest.charAt(0), t.text(), first, faults);
                    rest = rest.substring(1);
                }
                if (!faults.isEmpty()) {
                    kind = faults.stream().min(Integer::compare).get();
                    place = t.place();
                    return;
                }
            }
        }

        static boolean isNumber(String s) {
            return s.matches("[0-9]{1,4}");
        }

        void wordFaults(String word, Set<Integer> faults) {
            if (Set.of("people", "habits", "answer", "stays").contains(word) && !once.add(word)) {
                faults.add(3);
            }
            if (Set.of("people", "habits").contains(word) && once.contains("late")) {
                faults.add(4);
            }
        }

        int slot(char what, String t, int first, Set<Integer> faults) {
            if (what == 'A') {
                int at = List.of("best", "most", "copy").indexOf(t);
                told.put("answer", at);
                if (at < 0) {
                    faults.add(1);
                }
                return 0;
            }
            if (!isNumber(t)) {
                faults.add(1);
                return 0;
            }
            int n = Integer.parseInt(t);
            switch (what) {
                case 'p':
                    bounds(n, 2, 10, faults);
                    tooMany(habits, n, faults);
                    people = n;
                    return 0;
                case 'h':
                    bounds(n, 2, 4, faults);
                    tooMany(n, people, faults);
                    habits = n;
                    return 0;
                case 'W':
                    bounds(n, 0, habits - 1, faults);
                    return n;
                case 'H':
                    bounds(n, 0, habits - 1, faults);
                    told.put("H" + first, n);
                    return n;
                case 'J':
                    bounds(n, 0, habits - 1, faults);
                    again("worth " + first + " " + n, faults);
                    return first * 4 + n;
                case 'V':
                    bounds(n, 0, 99, faults);
                    told.put("V" + first, n);
                    return 0;
                case 'P':
                    bounds(n, 0, people - 1, faults);
                    return n;
                case 'Q':
                    bounds(n, 0, people - 1, faults);
                    if (n == first) {
                        faults.add(3);
                    }
                    again("meets " + Math.min(n, first) + " " + Math.max(n, first), faults);
                    return 0;
                case 'K':
                    bounds(n, 0, people - 1, faults);
                    again("keeps " + n, faults);
                    return n;
                case 'S':
                    bounds(n, 0, habits - 1, faults);
                    again("slip " + n, faults);
                    return n;
                default:
                    bounds(n, 1, 3, faults);
                    told.put("C" + first, n);
                    return 0;
            }
        }

        void again(String what, Set<Integer> faults) {
            if (!once.add(what)) {
                faults.add(3);
            }
        }

        static void bounds(int n, int low, int high, Set<Integer> faults) {
            if (n < low || n > high) {
                faults.add(2);
            }
        }

        static void tooMany(int habits, int people, Set<Integer> faults) {
            if (Math.pow(habits, people) > 1024) {
                faults.add(2);
            }
        }
    }

    public static void main(String[] args) {
        CustomValley x = new CustomValley();
        int[] kinds = new int[5];
        for (int i = 0; i < TEXTS; i++) {
            Random r = new Random(i);
            String text = text(r);
            if (text.length() > 700) {
                text = text.substring(0, 700);
            }
            int people = x.told(0);
            PlainReader reader = new PlainReader();
            reader.read(text);
            int got = Due.read(x, text);
            Due.due("valley() of " + text, got, reader.kind == 0 ? reader.clauses : -1);
            Due.due("fault(0) of " + text, x.fault(0), reader.kind);
            Due.due("fault(1) of " + text, x.fault(1), reader.place);
            kinds[reader.kind]++;
            if (reader.kind == 0) {
                compare(x, reader, text);
            } else {
                Due.due("told(0) stays behind " + text, x.told(0), people);
            }
        }
        for (int k = 0; k < 5; k++) {
            Due.due("there are texts with fault " + k, kinds[k] > 500 ? 1 : 0, 1);
        }
        Due.finish("TextsTest");
    }

    private static void compare(CustomValley x, PlainReader r, String text) {
        Due.due("told(0) of " + text, x.told(0), r.people);
        Due.due("told(1) of " + text, x.told(1), r.habits);
        Due.due("told(3) of " + text, x.told(3), r.told.getOrDefault("answer", 0));
        Due.due("told(4) of " + text, x.told(4), r.once.contains("stays") ? 1 : 0);
        boolean any = r.once.stream().anyMatch(s -> s.startsWith("meets "));
        for (int p = 0; p < r.people; p++) {
            int bits = 0;
            for (int q = 0; q < r.people; q++) {
                boolean told = r.once.contains("meets " + Math.min(p, q) + " " + Math.max(p, q));
                bits |= p != q && (!any || told) ? 1 << q : 0;
            }
            Due.due("told(20 + " + p + ") of " + text, x.told(20 + p), bits);
            int keeps = r.once.contains("keeps " + p) ? r.told.get("H" + p) : -1;
            Due.due("told(60 + " + p + ") of " + text, x.told(60 + p), keeps);
        }
        for (int i = 0; i < r.habits; i++) {
            Due.due("told(10 + " + i + ") of " + text, x.told(10 + i), r.told.getOrDefault("C" + i, 1));
            for (int j = 0; j < r.habits; j++) {
                int want = r.told.getOrDefault("V" + (4 * i + j), i == j ? 1 : 0);
                Due.due("told(40 + ..) of " + text, x.told(40 + 4 * i + j), want);
            }
        }
    }

    private static String text(Random r) {
        StringBuilder b = new StringBuilder();
        int clauses = r.nextInt(7);
        for (int i = 0; i < clauses; i++) {
            clause(b, r, i);
            b.append(";");
            blanks(b, r);
        }
        int breaks = Math.max(0, r.nextInt(6) - 3);
        for (int i = 0; i < breaks && b.length() > 0; i++) {
            int at = r.nextInt(b.length());
            switch (r.nextInt(4)) {
                case 0:
                    b.deleteCharAt(at);
                    break;
                case 1:
                    b.insert(at, (char) r.nextInt(256));
                    break;
                case 2:
                    b.setCharAt(at, "0123456789; \nabpswz".charAt(r.nextInt(19)));
                    break;
                default:
                    b.setLength(at);
                    break;
            }
        }
        return b.toString();
    }

    private static void blanks(StringBuilder b, Random r) {
        b.append(new String[] {"", " ", "\n", " \n "}[r.nextInt(4)]);
    }

    private static void clause(StringBuilder b, Random r, int i) {
        String[] words = {"people", "habits", "worth", "meets", "answer", "stays", "keeps", "slip"};
        String word = words[i < 2 && r.nextInt(3) != 0 ? r.nextInt(2) : r.nextInt(8)];
        b.append(word);
        int most = 3 + r.nextInt(3);
        switch (word) {
            case "people":
                number(b, r, 1, r.nextInt(4) == 0 ? 12 : 7);
                break;
            case "habits":
                number(b, r, r.nextInt(4) == 0 ? 1 : 2, r.nextInt(4) == 0 ? 6 : 4);
                break;
            case "worth":
                number(b, r, 0, 3);
                number(b, r, 0, 3);
                number(b, r, 0, 101);
                break;
            case "meets":
                for (int n = 1 + r.nextInt(3); n > 0; n--) {
                    number(b, r, 0, most);
                    number(b, r, 0, most);
                }
                break;
            case "answer":
                b.append(' ').append(new String[] {"best", "most", "copy", "some"}[r.nextInt(16) == 0 ? 3 : r.nextInt(3)]);
                break;
            case "keeps":
                number(b, r, 0, most);
                number(b, r, 0, 3);
                break;
            case "slip":
                number(b, r, 0, 3);
                number(b, r, r.nextInt(4) == 0 ? 0 : 1, r.nextInt(4) == 0 ? 4 : 3);
                break;
            default:
                break;
        }
        blanks(b, r);
    }

    private static void number(StringBuilder b, Random r, int low, int high) {
        b.append(' ').append("0".repeat(r.nextInt(12) == 0 ? r.nextInt(5) : 0)).append(low + r.nextInt(high - low + 1));
    }
}
