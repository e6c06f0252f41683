import java.util.ArrayList;
import java.util.List;

/**
 * Everything that can be seen of an oracle, as a list of questions. The questions come in parts,
 * each to be put to an object of its own, as an object is used for at most 512 calls.
 */
final class Portrait {
    /** A question to an oracle. */
    interface Question {
        Object ask(RoadOracle x);
    }

    /** A question is two calls at most, and the last one is 46. */
    private static final int PART = 120;

    private final List<Question> questions = new ArrayList<>();

    private Portrait() {
    }

    static List<List<Question>> parts(State state) {
        Portrait portrait = new Portrait();
        portrait.askWhatIsKept();
        portrait.askForRoads(state.roads);
        portrait.askForDistances(state.junctions, state.roads);
        portrait.askForPlaces(state.junctions);
        // The last one changes the object.
        portrait.questions.add(Portrait::unwind);
        List<List<Question>> parts = new ArrayList<>();
        for (int i = 0; i < portrait.questions.size(); i += PART) {
            int end = Math.min(i + PART, portrait.questions.size());
            parts.add(portrait.questions.subList(i, end));
        }
        return parts;
    }

    static List<String> answers(List<Question> part, RoadOracle x) {
        List<String> answers = new ArrayList<>();
        for (Question question : part) {
            answers.add(answer(question, x));
        }
        return answers;
    }

    private static String answer(Question question, RoadOracle x) {
        try {
            return String.valueOf(question.ask(x));
        } catch (RuntimeException e) {
            return e.getClass().getName();
        }
    }

    private void askWhatIsKept() {
        questions.add(RoadOracle::junctionCount);
        questions.add(RoadOracle::roadCount);
        questions.add(RoadOracle::isPrepared);
        questions.add(RoadOracle::arcCount);
        questions.add(RoadOracle::digest);
        questions.add(RoadOracle::routeCost);
        for (int i = 0; i <= 32; i++) {
            int index = i;
            questions.add(x -> x.routeRoad(index));
            questions.add(x -> x.reached(index));
        }
    }

    private void askForRoads(int roads) {
        for (int i = 0; i < roads; i++) {
            int road = i;
            questions.add(x -> x.weight(road));
            questions.add(x -> x.isOpen(road));
            questions.add(x -> x.position(road));
            for (int k = 0; k < roads; k++) {
                int second = k;
                questions.add(x -> x.turnPenalty(road, second));
            }
        }
    }

    private void askForDistances(int junctions, int roads) {
        for (int i = 0; i < junctions; i++) {
            int to = i;
            for (int k = 0; k < junctions; k++) {
                int from = k;
                questions.add(x -> x.distance(from, to));
            }
            questions.add(x -> x.distanceBehind(to % Math.max(roads, 1), to));
        }
    }

    private void askForPlaces(int junctions) {
        for (int i = 0; i < junctions; i++) {
            int junction = i;
            for (int k = 0; k < 4; k++) {
                int kind = k;
                questions.add(x -> isThere(x, junction, kind));
            }
        }
    }

    /** A place is seen by removing it, and put back. */
    private static boolean isThere(RoadOracle x, int junction, int kind) {
        boolean wasThere = x.setPlace(junction, kind, false);
        x.setPlace(junction, kind, wasThere);
        return wasThere;
    }

    /** Builds the hierarchy and closes all levels: which settings are DEFAULT shows on the way. */
    private static String unwind(RoadOracle x) {
        StringBuilder seen = new StringBuilder();
        seen.append(answer(RoadOracle::prepare, x));
        for (int i = 0; i < 10; i++) {
            seen.append(' ').append(x.digest());
            seen.append(' ').append(x.setUTurn(7));
            seen.append(' ').append(x.digest());
            seen.append(' ').append(answer(RoadOracle::pop, x));
        }
        seen.append(' ').append(answer(RoadOracle::push, x));
        seen.append(' ').append(answer(RoadOracle::addJunction, x));
        seen.append(' ').append(answer(y -> y.addRoad(0, 1, 1), x));
        seen.append(' ').append(x.digest());
        return seen.toString();
    }
}
