import java.io.IOException;
import java.io.UncheckedIOException;
import java.nio.file.Files;
import java.nio.file.Path;
import java.util.ArrayList;
import java.util.BitSet;
import java.util.List;
import java.util.Map;
import java.util.TreeMap;
import java.util.function.IntSupplier;
import java.util.regex.Matcher;
import java.util.regex.Pattern;

/**
 * A test of one sentence: it names the promise and quotes the sentence, which must stand in the
 * document so. What no test quotes is told at the end, so none can be left out.
 */
abstract class Edge {
    static final int NONE = CustomValley.NONE;
    static final int RANGE = CustomValley.RANGE;
    static final int FULL = CustomValley.FULL;
    static final int STATE = CustomValley.STATE;
    static final int LOW = Integer.MIN_VALUE;
    static final int HIGH = Integer.MAX_VALUE;

    private static final Path DOCUMENT = Path.of("../shared/DOC.md");
    private static final int PROMISES = 38;
    /** The terms stand under 0, each promise under its number. */
    private static final Map<Integer, String> TEXTS = new TreeMap<>();
    private static final Map<Integer, BitSet> QUOTED = new TreeMap<>();
    private static String what = "";
    private static int quotes = 0;
    private static int named = 0;

    static void open() {
        String all = read().replaceAll("\\s+", " ");
        String terms = all.substring(all.indexOf("## Terms") + 8, all.indexOf("The constants:"));
        put(0, terms.replace("```text", "").replace("```", ""));
        Matcher m = Pattern.compile("## Promise (\\d+): \\w+(?: \\w+)* `[^`]*`: (.*?)(?= ## )").matcher(all);
        while (m.find()) {
            put(Integer.parseInt(m.group(1)), m.group(2));
        }
        Due.due("promises in the document", TEXTS.size() - 1, PROMISES);
    }

    private static String read() {
        try {
            return Files.readString(DOCUMENT);
        } catch (IOException e) {
            throw new UncheckedIOException(e);
        }
    }

    private static void put(int number, String text) {
        TEXTS.put(number, text);
        QUOTED.put(number, new BitSet());
    }

    /** What follows holds this sentence of a promise. */
    static void promise(int number, String sentence) {
        quote(number, sentence);
        named = number;
        what = "promise " + number + ", '" + sentence + "': ";
    }

    /** What follows holds this sentence of the terms, as a promise's call shows it. */
    static void term(int number, String sentence) {
        quote(0, sentence);
        named = number;
        what = "promise " + number + " by the term '" + sentence + "': ";
    }

    private static void quote(int section, String sentence) {
        String text = TEXTS.getOrDefault(section, "");
        int at = text.indexOf(sentence);
        Due.due("the document says '" + sentence + "' in " + section, at >= 0 ? 1 : 0, 1);
        quotes++;
        // a word like RANGE stands in the terms more than once, but each promise is its own text
        for (; at >= 0; at = text.indexOf(sentence, at + 1)) {
            QUOTED.get(section).set(at, at + sentence.length());
        }
    }

    static int quotes() {
        return quotes;
    }

    static int named() {
        return named;
    }

    static void due(String call, long got, long want) {
        Due.due(what + call, got, want);
    }

    /** The call tells what is due, and all that can be asked for is as it was. */
    static void refused(CustomValley x, String call, IntSupplier done, int want) {
        List<Integer> before = all(x);
        due(call, done.getAsInt(), want);
        List<Integer> after = all(x);
        for (int i = 0; i < before.size(); i++) {
            due("answer " + i + " behind the refused " + call, after.get(i), before.get(i));
        }
    }

    /** What an object answers to calls that change nothing. */
    private static List<Integer> all(CustomValley x) {
        List<Integer> told = new ArrayList<>();
        for (int i = 0; i < 4; i++) {
            told.add(x.count(i));
            told.add(x.judged(i));
            told.add(x.treeTo(i));
            told.add(x.told(10 + i));
            told.add(x.told(20 + i));
            told.add(x.told(60 + i));
            told.add(x.told(40 + 5 * i));
            told.add(x.ran(10 + i));
        }
        for (int i = -1; i < 6; i++) {
            told.add(x.way(i));
            told.add(x.told(i));
        }
        for (int i = 0; i < 3; i++) {
            told.add(x.ran(i));
            told.add(x.fault(i));
            told.add(x.explained(999, i));
            told.add(x.explained(1, i));
        }
        for (int s = 0; s < 16; s++) {
            told.add(x.parts(s));
        }
        told.add(x.rests());
        return told;
    }

    /** An object of which all has been asked and to which all has been told, with 20 bytes on its tape. */
    static CustomValley busy() {
        CustomValley x = Due.of("people 4;slip 1 2;worth 0 1 1;answer most;");
        x.fewest(0, 15);
        x.tree(1);
        x.flow(1, 2, 3);
        x.run(1, 5, 7, 3);
        Due.put(x, "0121");
        x.judge(0);
        x.see(1, 10, 0);
        x.see(2, 20, 15);
        x.right(3, 1, 3);
        x.feed(0x73746179, 0x733b2020, 0x20202020, 0x20202020, 0x20202020);
        return x;
    }

    /** What nobody has quoted, if there is a word in it, is a sentence without a test. */
    static void close() {
        for (Map.Entry<Integer, String> one : TEXTS.entrySet()) {
            BitSet quoted = QUOTED.get(one.getKey());
            StringBuilder left = new StringBuilder();
            for (int i = 0; i < one.getValue().length(); i++) {
                left.append(quoted.get(i) ? '\n' : one.getValue().charAt(i));
            }
            for (String part : left.toString().split("\n+")) {
                boolean heading = part.matches("[\\s,;.:]*(and|or)?[\\s,;.:()]*((I|II|III|IV)\\.)?\\s*");
                Due.due("section " + one.getKey() + " says, and no test holds it: '" + part + "'", heading ? 0 : 1, 0);
            }
        }
    }
}
