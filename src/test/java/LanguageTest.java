import java.io.IOException;
import java.lang.reflect.Constructor;
import java.lang.reflect.Field;
import java.lang.reflect.Method;
import java.lang.reflect.Modifier;
import java.nio.file.Files;
import java.nio.file.Path;
import java.util.Arrays;
import java.util.List;
import java.util.Set;
import java.util.TreeSet;
import java.util.regex.Matcher;
import java.util.regex.Pattern;

/** The face of the document, and those rules of LANGUAGE.md that can be seen from the class and its source. */
public final class LanguageTest {
    private static final Due DUE = new Due("LanguageTest");
    private static final Set<String> FACE = new TreeSet<>(List.of("set/3", "load/3", "take/3", "bar/2", "loading/2",
        "loadings/1", "move/4", "drop/1", "shift/2", "told/2", "height/2", "strike/3", "clash/2", "often/2", "hands/1",
        "crew/2", "image/1", "restore/1", "count/1"));
    private static final Set<String> CONSTANTS =
        new TreeSet<>(List.of("UNKNOWN", "OUTSIDE", "STATE", "FULL", "NO", "NONE"));

    public static void main(String[] args) throws IOException {
        Path source = Path.of(args.length > 0 ? args[0] : "src/main/java/StageLines.java");
        face();
        for (Class<?> inside : StageLines.class.getDeclaredClasses()) {
            inside(inside);
        }
        DUE.holds("rule 11: classes", StageLines.class.getDeclaredClasses().length < 12);
        source(Files.readString(source));
        DUE.close();
    }

    private static void face() {
        int modifiers = StageLines.class.getModifiers();
        DUE.holds("rule 1: public and final", Modifier.isPublic(modifiers) && Modifier.isFinal(modifiers));
        Set<String> methods = new TreeSet<>();
        for (Method m : StageLines.class.getDeclaredMethods()) {
            if (Modifier.isPrivate(m.getModifiers())) {
                continue;
            }
            methods.add(m.getName() + "/" + m.getParameterCount());
            boolean ints = m.getReturnType() == int.class
                && Arrays.stream(m.getParameterTypes()).allMatch(t -> t == int.class);
            DUE.holds("the face: " + m, ints && m.getModifiers() == Modifier.PUBLIC);
        }
        DUE.holds("the face: methods " + methods, methods.equals(FACE));
        Set<String> constants = new TreeSet<>();
        for (Field f : StageLines.class.getDeclaredFields()) {
            if (!Modifier.isPrivate(f.getModifiers())) {
                constants.add(f.getName());
                int want = Modifier.PUBLIC | Modifier.STATIC | Modifier.FINAL;
                DUE.holds("the face: " + f, f.getModifiers() == want && f.getType() == int.class);
            }
        }
        DUE.holds("the face: constants " + constants, constants.equals(CONSTANTS));
        Constructor<?>[] constructors = StageLines.class.getDeclaredConstructors();
        DUE.holds("the face: one constructor", constructors.length == 1 && constructors[0].getParameterCount() == 0
            && constructors[0].getModifiers() == Modifier.PUBLIC);
        members(StageLines.class);
    }

    private static void inside(Class<?> inside) {
        int modifiers = inside.getModifiers();
        DUE.holds("rule 1: " + inside, Modifier.isStatic(modifiers)
            && !Modifier.isPublic(modifiers) && !Modifier.isProtected(modifiers));
        DUE.holds("rule 1: no class inside " + inside, inside.getDeclaredClasses().length == 0);
        members(inside);
    }

    private static void members(Class<?> of) {
        int fields = 0;
        for (Field f : of.getDeclaredFields()) {
            if (Modifier.isStatic(f.getModifiers())) {
                DUE.holds("rule 5: final: " + f, Modifier.isFinal(f.getModifiers()));
            } else {
                fields++;
            }
        }
        DUE.holds("rule 11: fields of " + of, fields <= 20);
        for (Method m : of.getDeclaredMethods()) {
            DUE.holds("rule 11: parameters of " + m, m.getParameterCount() <= 7);
            boolean isFace = Modifier.isPublic(m.getModifiers());
            boolean sameName = FACE.stream().anyMatch(f -> f.startsWith(m.getName() + "/"));
            DUE.holds("rule 1: the name of " + m, isFace || !sameName);
            DUE.holds("rule 2: made by the compiler: " + m, !m.isSynthetic());
        }
    }

    private static void source(String text) {
        String bare = text.replaceAll("(?s)/\\*.*?\\*/", "").replaceAll("//[^\n]*", "");
        for (String word : List.of("throw", "throws", "try", "catch", "synchronized", "assert", "package", "native",
            "double", "float", "System.out", "System.exit", "hashCode", "toString", "Random", "Thread")) {
            DUE.holds("rules 6, 13: " + word, !Pattern.compile("\\b" + Pattern.quote(word) + "\\b").matcher(bare).find());
        }
        DUE.holds("rule 2: a lambda", !bare.contains("->"));
        DUE.holds("rule 2: a method reference", !bare.contains("::"));
        DUE.holds("rule 4: Exact", !Pattern.compile("Exact\\s*\\(").matcher(bare).find());
        DUE.holds("rule 5: a static block", !Pattern.compile("\\bstatic\\s*\\{").matcher(bare).find());
        DUE.holds("plain signs", text.chars().allMatch(c -> c < 128));
        Matcher imports = Pattern.compile("\\bimport\\s+([^;]+);").matcher(bare);
        while (imports.find()) {
            DUE.holds("rule 4: import " + imports.group(1), imports.group(1).equals("java.util.Arrays"));
        }
        shortMethods(bare);
    }

    /** A method begins at a line that ends in ") {" one or two levels deep, and ends at the brace of that depth. */
    private static void shortMethods(String bare) {
        String[] lines = bare.split("\n");
        for (int i = 0; i < lines.length; i++) {
            Matcher head = Pattern.compile("^( {4}| {8})[a-zA-Z].*\\) \\{$").matcher(lines[i]);
            if (!head.find() || lines[i].trim().matches("(if|for|while|switch).*")) {
                continue;
            }
            int end = i;
            while (end < lines.length && !lines[end].equals(head.group(1) + "}")) {
                end++;
            }
            DUE.holds("rule 11: too long: " + lines[i].trim(), end - i < 60);
        }
    }
}
