import java.io.IOException;
import java.nio.file.Files;
import java.nio.file.Path;
import java.util.ArrayList;
import java.util.Arrays;
import java.util.HashMap;
import java.util.LinkedHashMap;
import java.util.List;
import java.util.Map;

/**
 * Tests of the document's sentences, each under its own words. At the end the words are sought in the document: all
 * of them have to stand there under their heading, and nothing may stand there that is not among them.
 */
final class Edges {
    private static final int CALLS_OF_AN_OBJECT = 512;
    private static final String PLAIN = "(names no boundary case)";

    private final Due due;
    /** Words that stand for numbers in rows. The answers are written out: the constants could be wrong, too. */
    private final Map<String, Integer> words = new HashMap<>(Map.of(
        "MIN", Integer.MIN_VALUE, "MAX", Integer.MAX_VALUE,
        "UNKNOWN", -1, "OUTSIDE", -2, "STATE", -3, "FULL", -4, "NO", -5, "NONE", -6));
    private final Map<String, List<String>> quotes = new LinkedHashMap<>();
    private String heading = "";
    private String sentence = PLAIN;
    private int asked = 0;

    Edges(String name) {
        due = new Due(name);
    }

    void heading(String text) {
        endSentence();
        heading = text;
        quotes.put(text, new ArrayList<>());
    }

    /** Words of the document that name no boundary case. */
    void plain(String text) {
        quote(text, PLAIN);
    }

    /** Words of the document; what follows tests them. */
    void sentence(String text) {
        quote(text, text);
    }

    private void quote(String text, String label) {
        endSentence();
        quotes.get(heading).add(text);
        sentence = label;
        asked = 0;
    }

    private void endSentence() {
        due.holds(label("no test"), sentence.equals(PLAIN) || asked > 0);
    }

    private String label(String text) {
        return "[" + heading + "] \"" + sentence + "\": " + text;
    }

    void let(String word, int number) {
        words.put(word, number);
    }

    static String[] times(int n, String row) {
        String[] rows = new String[n];
        Arrays.fill(rows, row);
        return rows;
    }

    static String[] join(String[] some, String... more) {
        String[] rows = Arrays.copyOf(some, some.length + more.length);
        System.arraycopy(more, 0, rows, some.length, more.length);
        return rows;
    }

    /** Plays rows, each a text or several, on a new object: "call(..) = answer"; without an answer none is refused. */
    void run(Object... rows) {
        StageLines stage = new StageLines();
        List<String> flat = flatten(rows);
        due.holds(label("more than 512 calls"), flat.size() <= CALLS_OF_AN_OBJECT);
        for (int i = 0; i < flat.size(); i++) {
            String[] row = flat.get(i).split(" = ");
            Call call = Call.read(row[0], words);
            int got = call.on(stage);
            if (row.length == 1) {
                due.holds(label("call " + i + ", " + call + " answered " + got), got >= 0);
            } else {
                asked++;
                due.due(label("call " + i + ", " + call), got, Call.number(row[1], words));
            }
        }
    }

    /** What is no call. */
    void same(String what, int got, int want) {
        asked++;
        due.due(label(what), got, want);
    }

    /** Each call alone, behind the same rows: it answers this, and changes nothing. */
    void refused(String answer, String[] rows, String... calls) {
        List<Call> run = new ArrayList<>();
        for (String row : rows) {
            run.add(Call.read(row, words));
        }
        List<Integer> before = Picture.ofAll(StageLines::new, run);
        for (String text : calls) {
            run(rows, text + " = " + answer);
            List<Call> longer = new ArrayList<>(run);
            longer.add(Call.read(text, words));
            due.holds(label(text + " changed something"), before.equals(Picture.ofAll(StageLines::new, longer)));
        }
    }

    /** As refused(..), on a new stage, a busy one and a full one. */
    void refusedAnywhere(String answer, String... calls) {
        refused(answer, Scenes.NEW, calls);
        refused(answer, Scenes.BUSY, calls);
        refused(answer, Scenes.FULL, calls);
    }

    /** A call with each of the numbers in place of "?", as in "set(?, 0, 0)". */
    static String[] each(String call, String... numbers) {
        String[] calls = new String[numbers.length];
        for (int i = 0; i < numbers.length; i++) {
            calls[i] = call.replace("?", numbers[i]);
        }
        return calls;
    }

    private static List<String> flatten(Object... rows) {
        List<String> flat = new ArrayList<>();
        for (Object row : rows) {
            if (row instanceof String[] several) {
                flat.addAll(List.of(several));
            } else {
                flat.add((String) row);
            }
        }
        return flat;
    }

    /** The second argument of the program is the document's path. */
    void close(String[] args) throws IOException {
        endSentence();
        String document = Files.readString(Path.of(args.length > 1 ? args[1] : "../shared/DOC.md"));
        for (Map.Entry<String, List<String>> entry : quotes.entrySet()) {
            String rest = sectionOf(document, entry.getKey());
            for (String text : entry.getValue()) {
                int at = rest.indexOf(text);
                due.holds("[" + entry.getKey() + "] does not say \"" + text + "\"", at >= 0);
                rest = at < 0 ? rest : rest.substring(0, at) + "|" + rest.substring(at + text.length());
            }
            due.holds("[" + entry.getKey() + "] says more: " + rest, !rest.matches(".*[A-Za-z0-9].*"));
        }
        due.close();
    }

    /** What stands under a heading, in one line, without what only gives it form. */
    static String sectionOf(String document, String heading) {
        String begin = "\n## " + heading + "\n";
        int at = document.indexOf(begin);
        if (at < 0) {
            return "";
        }
        int end = document.indexOf("\n## ", at + begin.length());
        String text = document.substring(at + begin.length(), end < 0 ? document.length() : end);
        return text.replaceAll("```[a-z]*", " ").replaceAll("======== \\d", " ").replaceAll("\\s+", " ");
    }
}
