import java.util.ArrayList;
import java.util.List;
import java.util.function.Supplier;

/**
 * What an object holds behind a run of calls, all of it, and most of what is reckoned from that. As an object is good
 * for 512 calls, the run is played on several new ones, and each is asked a part.
 */
final class Picture {
    private static final int CALLS_OF_AN_OBJECT = 512;
    private static final List<Call> HELD = held();
    private static final List<Call> RECKONED = reckoned();

    private Picture() { }

    /** What is held: now, and in each IMAGE. */
    static List<Integer> ofHeld(Supplier<Object> maker, List<Call> run) {
        List<Integer> answers = new ArrayList<>(asked(maker, run, HELD));
        for (int k = 0; k < 2; k++) {
            List<Call> back = new ArrayList<>(run);
            back.add(Call.of("restore", k));
            answers.addAll(asked(maker, back, HELD));
        }
        return answers;
    }

    /** What is held, and what is reckoned from it. */
    static List<Integer> ofAll(Supplier<Object> maker, List<Call> run) {
        List<Integer> answers = new ArrayList<>(ofHeld(maker, run));
        answers.addAll(asked(maker, run, RECKONED));
        return answers;
    }

    private static List<Integer> asked(Supplier<Object> maker, List<Call> run, List<Call> questions) {
        if (run.size() + questions.size() > CALLS_OF_AN_OBJECT) {
            throw new IllegalStateException("too many calls for one object");
        }
        Object stage = maker.get();
        for (Call call : run) {
            call.on(stage);
        }
        List<Integer> answers = new ArrayList<>();
        for (Call question : questions) {
            answers.add(question.on(stage));
        }
        return answers;
    }

    private static List<Call> held() {
        List<Call> calls = new ArrayList<>();
        for (int b = 0; b < 10; b++) {
            for (int what = 0; what < 26; what++) {
                if (what < 9 || what % 10 < 6 && what >= 10) {
                    calls.add(Call.of("bar", b, what));
                }
            }
        }
        for (int m = 0; m < 10; m++) {
            for (int what = 0; what < 4; what++) {
                calls.add(Call.of("told", m, what));
            }
        }
        for (int what = 0; what < 6; what++) {
            calls.add(Call.of("count", what));
        }
        return calls;
    }

    private static List<Call> reckoned() {
        List<Call> calls = new ArrayList<>();
        for (int m = 0; m < 10; m++) {
            for (int what = 4; what < 9; what++) {
                calls.add(Call.of("told", m, what));
            }
            for (int k = 0; k < 3; k++) {
                calls.add(Call.of("crew", m, k));
            }
        }
        for (int b = 0; b < 10; b++) {
            calls.add(Call.of("loadings", b));
            calls.add(Call.of("loading", b, -1));
            calls.add(Call.of("loading", b, 0));
            for (int t = 0; t <= 300; t += 60) {
                calls.add(Call.of("height", b, t));
            }
            for (int other = b + 1; other < 10; other++) {
                calls.add(Call.of("often", b, other));
            }
        }
        for (int what = 0; what < 3; what++) {
            calls.add(Call.of("hands", what));
            calls.add(Call.of("clash", 0, what));
            calls.add(Call.of("clash", 150, what));
        }
        return calls;
    }
}
