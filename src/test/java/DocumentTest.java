import java.io.IOException;
import java.lang.reflect.Method;
import java.lang.reflect.Modifier;
import java.nio.file.Files;
import java.nio.file.Path;
import java.util.ArrayList;
import java.util.List;
import java.util.Random;
import java.util.regex.Matcher;
import java.util.regex.Pattern;

/**
 * The document as a whole: its headings, its public face and "Not promised". What stands under its other headings is
 * for the *EdgesTests.
 */
public final class DocumentTest {
    private static final Due DUE = new Due("DocumentTest");
    private static final List<String> HEADINGS = List.of("What it is", "The public face", "Terms",
        "Promise 1: A new object", "Promise 2: set", "Promise 3: load", "Promise 4: take", "Promise 5: bar",
        "Promise 6: loading", "Promise 7: loadings", "Promise 8: move", "Promise 9: drop", "Promise 10: shift",
        "Promise 11: told", "Promise 12: height", "Promise 13: strike", "Promise 14: clash", "Promise 15: often",
        "Promise 16: hands", "Promise 17: crew", "Promise 18: image", "Promise 19: restore", "Promise 20: count",
        "Not promised");
    private static final int CALLS = 20_000;

    public static void main(String[] args) throws IOException {
        String source = Files.readString(Path.of(args.length > 0 ? args[0] : "src/main/java/StageLines.java"));
        String document = Files.readString(Path.of(args.length > 1 ? args[1] : "../shared/DOC.md"));
        headings(document);
        face(document, source);
        notPromised(document);
        callsBehindTheLast();
        DUE.close();
    }

    private static void headings(String document) {
        DUE.holds("the document is not that of StageLines", document.startsWith("# StageLines\n"));
        List<String> found = new ArrayList<>();
        Matcher heading = Pattern.compile("(?m)^## (.*)$").matcher(document);
        while (heading.find()) {
            found.add(heading.group(1));
        }
        DUE.holds("headings: " + found, found.equals(HEADINGS));
    }

    /** Each line of the face stands in the source, with its parameters' names; and the source has no public line more. */
    private static void face(String document, String source) {
        List<String> due = new ArrayList<>();
        for (String line : Edges.sectionOf(document, "The public face").split("(?<=[;{])")) {
            if (!line.replace("}", "").isBlank()) {
                due.add(line.trim().replaceAll("\\);$", ") {"));
            }
        }
        List<String> found = new ArrayList<>();
        Matcher line = Pattern.compile("(?m)^ *(public .*)$").matcher(source);
        while (line.find()) {
            found.add(line.group(1));
        }
        DUE.holds("the face is " + found + ", due is " + due, found.equals(due));
        DUE.due("lines of the face", due.size(), 22);
    }

    private static void notPromised(String document) {
        String text = Edges.sectionOf(document, "Not promised").trim();
        DUE.holds("[Not promised] is " + text, text.equals("How the state is held inside the object is free, as are the "
            + "speed of each call, the text of toString and the behaviour of equals and hashCode. Use of one object from "
            + "several threads at once is not promised to be safe. Nothing is promised beyond the answers and state "
            + "changes described above, and nothing about an object after its 512th call."));
        // What is not promised is not built.
        for (Method m : StageLines.class.getDeclaredMethods()) {
            DUE.holds("not asked for: " + m, !List.of("toString", "equals", "hashCode").contains(m.getName()));
        }
    }

    /** What calls behind the 512th answer is free, but LANGUAGE.md (7) wants that none throws or fails to end. */
    private static void callsBehindTheLast() {
        Random random = new Random(512);
        List<Method> calls = new ArrayList<>();
        for (Method m : StageLines.class.getDeclaredMethods()) {
            if (Modifier.isPublic(m.getModifiers())) {
                calls.add(m);
            }
        }
        StageLines stage = new StageLines();
        for (int i = 0; i < CALLS; i++) {
            Method method = calls.get(random.nextInt(calls.size()));
            int[] arguments = new int[method.getParameterCount()];
            for (int j = 0; j < arguments.length; j++) {
                arguments[j] = random.nextInt(9) == 0 ? random.nextInt() : random.nextInt(12) - 1;
            }
            Call call = Call.of(method.getName(), arguments);
            DUE.holds("call " + i + ", " + call + " answers what none does", call.on(stage) >= StageLines.NONE);
        }
    }
}
