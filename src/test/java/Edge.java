import java.lang.reflect.Method;
import java.util.ArrayList;
import java.util.Arrays;
import java.util.HashMap;
import java.util.List;
import java.util.Map;
import java.util.Set;

/**
 * A sentence of the document that names a boundary, and calls on a new foundry that show whether it holds.
 *
 * Calls are written "buy 0 5 = 5"; those on one line are parted by ";". "12 x pour 0 100" makes a call twelve times,
 * and "write (0,1)" types each sign. A call without "=" only prepares, and must not be refused. least and greatest
 * are the least and the greatest int. Behind each call that is refused, and each that only asks, everything that can
 * be asked must be as if it had not been made, in the present and in all states of the history.
 */
final class Edge {
    private static final int MOST_CALLS = 512;
    private static final int MOST_STATES = 4;
    /** What changes the foundry, its history or its text, if it is not refused. */
    private static final Set<String> CHANGES = Set.of("buy", "charge", "scrap", "pour", "tune", "smash", "order",
            "cancel", "send", "set", "undo", "type", "clearText");
    private static final Map<String, Integer> PARAMETERS = parametersOfTheFace();

    private record Call(String name, int... a) {
        int on(BellFoundry foundry) {
            return Calls.make(foundry, name, a);
        }

        String told() {
            return name + Arrays.toString(a);
        }
    }

    private final String sentence;
    private final BellFoundry foundry = new BellFoundry();
    /** The calls that changed something. */
    private final List<Call> changes = new ArrayList<>();
    private int made = 0;

    private Edge(String sentence) {
        this.sentence = sentence;
    }

    static void edge(String sentence, String... lines) {
        Edge edge = new Edge(sentence);
        for (String line : lines) {
            for (String written : line.split(";")) {
                edge.run(written.trim());
            }
        }
        Due.holds(sentence + ": at most " + MOST_CALLS + " calls", edge.made <= MOST_CALLS);
    }

    private static Map<String, Integer> parametersOfTheFace() {
        Map<String, Integer> parameters = new HashMap<>();
        for (Method method : BellFoundry.class.getMethods()) {
            if (method.getDeclaringClass() == BellFoundry.class) {
                parameters.put(method.getName(), method.getParameterCount());
            }
        }
        return parameters;
    }

    private void run(String written) {
        if (written.startsWith("write ")) {
            for (char sign : written.substring("write ".length()).toCharArray()) {
                make(new Call("type", sign), null);
            }
            return;
        }
        String[] sides = written.split(" = ");
        String[] words = sides[0].split(" ");
        boolean repeated = words.length > 2 && words[1].equals("x");
        int times = repeated ? Integer.parseInt(words[0]) : 1;
        Call call = parse(repeated ? Arrays.copyOfRange(words, 2, words.length) : words);
        for (int i = 0; i < times; i++) {
            make(call, sides.length > 1 ? Integer.valueOf(sides[1].trim()) : null);
        }
    }

    private static Call parse(String[] words) {
        int[] a = new int[words.length - 1];
        for (int i = 0; i < a.length; i++) {
            String word = words[i + 1];
            a[i] = switch (word) {
                case "least" -> Integer.MIN_VALUE;
                case "greatest" -> Integer.MAX_VALUE;
                default -> Integer.parseInt(word);
            };
        }
        if (!Integer.valueOf(a.length).equals(PARAMETERS.get(words[0]))) {
            throw new IllegalArgumentException(String.join(" ", words));
        }
        return new Call(words[0], a);
    }

    private void make(Call call, Integer due) {
        made++;
        int got = call.on(foundry);
        String told = sentence + ": " + call.told();
        if (due == null) {
            Due.holds(told + " is not refused", got >= 0);
        } else {
            Due.due(told, got, due);
        }
        if (got >= 0 && CHANGES.contains(call.name)) {
            changes.add(call);
        } else {
            leavesNoTrace(told, call);
        }
    }

    private BellFoundry again() {
        BellFoundry twin = new BellFoundry();
        for (Call call : changes) {
            call.on(twin);
        }
        return twin;
    }

    private void leavesNoTrace(String told, Call call) {
        int states = again().count(8);
        for (int undone = 0; undone <= Math.min(states, MOST_STATES); undone++) {
            List<Call> questions = questions(undone);
            int atOnce = MOST_CALLS - changes.size() - 1 - undone;
            if (atOnce < 1) {
                return;
            }
            for (int from = 0; from < questions.size(); from += atOnce) {
                List<Call> some = questions.subList(from, Math.min(questions.size(), from + atOnce));
                Due.holds(told + " leaves no trace, seen " + undone + " states back",
                        answers(some, call, undone).equals(answers(some, null, undone)));
            }
        }
    }

    private List<Integer> answers(List<Call> questions, Call added, int undone) {
        BellFoundry twin = again();
        if (added != null) {
            added.on(twin);
        }
        for (int i = 0; i < undone; i++) {
            twin.undo();
        }
        List<Integer> answers = new ArrayList<>();
        for (Call question : questions) {
            answers.add(question.on(twin));
        }
        return answers;
    }

    /** All that can be asked of what is there so many states back. */
    private List<Call> questions(int undone) {
        BellFoundry twin = again();
        for (int i = 0; i < undone; i++) {
            twin.undo();
        }
        List<Call> questions = new ArrayList<>();
        ask(questions, "count", 0, 9);
        ask(questions, "count", 20, 26);
        ask(questions, "melt", 0, 5);
        ask(questions, "fault", 0, 1);
        ask(questions, "frame", 0, 5);
        askOfEach(questions, "account", 2, 6);
        askOfEach(questions, "lot", twin.count(0) + 1, 4);
        askOfEach(questions, "bell", twin.count(1) + 1, 9);
        askOfEach(questions, "orderOf", twin.count(5) + 1, 5);
        return questions;
    }

    private static void ask(List<Call> questions, String name, int from, int to) {
        for (int what = from; what <= to; what++) {
            questions.add(new Call(name, what));
        }
    }

    private static void askOfEach(List<Call> questions, String name, int things, int most) {
        for (int thing = 0; thing < things; thing++) {
            for (int what = 0; what <= most; what++) {
                questions.add(new Call(name, thing, what));
            }
        }
    }
}
