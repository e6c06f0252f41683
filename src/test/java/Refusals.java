import java.util.ArrayList;
import java.util.List;

/** Tests calls in one state: what is refused throws what is due and changes nothing. */
final class Refusals {
    /** A call of which only the exception matters. */
    interface Call {
        void on(RoadOracle x);
    }

    private record Refused(String name, Class<? extends RuntimeException> due, Call call) {
    }

    /** With the calls that make a state and a part of its portrait they are fewer than 512. */
    private static final int BATCH = 100;

    private final Check check;
    private final State state;
    private final List<List<Portrait.Question>> parts;
    private final List<List<String>> before = new ArrayList<>();
    private final List<Refused> batch = new ArrayList<>();

    Refusals(Check check, State state) {
        this.check = check;
        this.state = state;
        parts = Portrait.parts(state);
        for (List<Portrait.Question> part : parts) {
            before.add(Portrait.answers(part, state.make()));
        }
    }

    /** A call of a method; due is the exception, or null if the call is taken. */
    void call(Class<? extends RuntimeException> due, String method, Call call, Object... args) {
        String name = state + ": " + method + List.of(args);
        if (due == null) {
            check.takes(name, () -> call.on(state.make()));
            return;
        }
        batch.add(new Refused(name, due, call));
        if (batch.size() == BATCH) {
            finish();
        }
    }

    /** Plays the calls that are still waiting, one after the other on one object. */
    void finish() {
        for (int i = 0; i < parts.size() && !batch.isEmpty(); i++) {
            RoadOracle x = state.make();
            for (Refused refused : batch) {
                check.fails(refused.name, refused.due, () -> refused.call.on(x));
            }
            check.same(batch.get(0).name + " to " + batch.get(batch.size() - 1).name + " changed nothing",
                    Portrait.answers(parts.get(i), x).equals(before.get(i)), true);
        }
        batch.clear();
    }
}
