import java.math.BigInteger;
import java.util.ArrayDeque;
import java.util.ArrayList;
import java.util.Deque;
import java.util.HashSet;
import java.util.List;
import java.util.Set;

/** The document once more, in the slowest and plainest form, to compare random runs with. */
final class Reference {
    private static final int INVALID = -1;
    private static final int IMPOSSIBLE = -2;
    private static final int LIMIT = -3;
    private static final int NONE = -4;

    /** An error that a call returns. */
    private static final class Refusal extends RuntimeException {
        private static final long serialVersionUID = 1L;
        private final int code;

        Refusal(int code) {
            super(null, null, false, false);
            this.code = code;
        }
    }

    private record Metal(long copper, long tin) {
        long weight() {
            return copper + tin;
        }

        long alloy() {
            return weight() == 0 ? 0 : 1000 * tin / weight();
        }

        Metal plus(Metal other) {
            return new Metal(copper + other.copper, tin + other.tin);
        }

        Metal minus(Metal other) {
            return new Metal(copper - other.copper, tin - other.tin);
        }

        Metal drawn(long n) {
            return n == 0 ? new Metal(0, 0) : new Metal(n * copper / weight(), n - n * copper / weight());
        }

        Metal slag(int[] settings) {
            return new Metal(up(copper * settings[0], 1000), up(tin * settings[1], 1000));
        }

        long of(int what) {
            return new long[] {copper, tin, weight(), alloy()}[what];
        }

        Metal with(int metal, long pounds) {
            return metal == 0 ? new Metal(copper + pounds, tin) : new Metal(copper, tin + pounds);
        }
    }

    private record Scrap(Metal metal, int kind) {
    }

    private record Cast(Metal metal, int profile, long pitch, int poured, int drawn, boolean cracked, boolean smashed, int sentFor) {
        boolean remains() {
            return !smashed && sentFor < 0;
        }

        boolean whole() {
            return remains() && !cracked;
        }

        int state() {
            return smashed ? 3 : sentFor >= 0 ? 2 : cracked ? 1 : 0;
        }
    }

    private record Wish(int profile, int pitch, int tolerance, int state) {
        boolean fits(Cast bell) {
            return bell.whole() && bell.profile == profile && Math.abs(bell.pitch - pitch) <= tolerance;
        }
    }

    private static final Metal NOTHING = new Metal(0, 0);
    private static final int[] LEAST = {0, 0, 0, 0, 0, 1, 1};
    private static final int[] MOST = {50, 100, 1000, 1000, 300, 50, 20000};

    private static final class State {
        Metal bought = NOTHING;
        Metal stock = NOTHING;
        Metal slag = NOTHING;
        Metal melt = NOTHING;
        List<Scrap> scrap = new ArrayList<>();
        List<Cast> bells = new ArrayList<>();
        List<Wish> orders = new ArrayList<>();
        int[] settings = {5, 20, 180, 260, 50, 6, 2000};

        State copy() {
            State copy = new State();
            copy.bought = bought;
            copy.stock = stock;
            copy.slag = slag;
            copy.melt = melt;
            copy.scrap = new ArrayList<>(scrap);
            copy.bells = new ArrayList<>(bells);
            copy.orders = new ArrayList<>(orders);
            copy.settings = settings.clone();
            return copy;
        }

        List<Cast> remaining() {
            return bells.stream().filter(Cast::remains).toList();
        }

        int open() {
            return (int) orders.stream().filter(order -> order.state == 0).count();
        }

        void addScrap(Metal metal, int kind) {
            if (metal.weight() == 0) {
                return;
            }
            if (scrap.size() < 12) {
                scrap.add(new Scrap(metal, kind));
            } else {
                Scrap last = scrap.remove(11);
                scrap.add(new Scrap(last.metal.plus(metal), last.kind));
            }
        }

        Metal burnt() {
            return melt.minus(melt.slag(settings));
        }

        long sprue(long pounds) {
            return up(pounds * settings[4], 1000);
        }
    }

    private State state = new State();
    private final Deque<State> history = new ArrayDeque<>();
    private String text = "";

    private static long up(long number, long divisor) {
        return number / divisor + (number % divisor == 0 ? 0 : 1);
    }

    private static void need(boolean truth, int code) {
        if (!truth) {
            throw new Refusal(code);
        }
    }

    private static void range(int number, int from, int to) {
        need(number >= from && number <= to, INVALID);
    }

    private static long pitch(int profile, long weight, long alloy) {
        long root = Math.round(Math.cbrt(1e6 * weight)) + 2;
        while (BigInteger.valueOf(root).pow(3).compareTo(BigInteger.valueOf(1000000 * weight)) > 0) {
            root--;
        }
        return new int[] {900, 1200, 1500, 1100}[profile] * 1000 / root + alloy / 4;
    }

    private void change() {
        history.addLast(state.copy());
        if (history.size() == 5) {
            history.removeFirst();
        }
    }

    private Cast cast(int number) {
        range(number, 0, state.bells.size() - 1);
        return state.bells.get(number);
    }

    private Wish wish(int number) {
        range(number, 0, state.orders.size() - 1);
        return state.orders.get(number);
    }

    private Scrap scrapAt(int index) {
        range(index, 0, state.scrap.size() - 1);
        return state.scrap.get(index);
    }

    /** A call by its name; its answer, also if it is an error. */
    int call(String name, int... a) {
        try {
            return (int) answer(name, a);
        } catch (Refusal refusal) {
            return refusal.code;
        }
    }

    private long answer(String name, int[] a) {
        return switch (name) {
            case "buy" -> buy(a[0], a[1]);
            case "charge" -> charge(a[0], a[1]);
            case "scrap" -> scrap(a[0]);
            case "lot" -> lot(a[0], a[1]);
            case "melt" -> melt(a[0]);
            case "set" -> set(a[0], a[1]);
            case "pour" -> pour(a[0], a[1]);
            case "tune" -> tune(a[0], a[1]);
            case "smash" -> smash(a[0]);
            case "bell" -> bell(a[0], a[1]);
            case "order" -> order(a[0], a[1], a[2]);
            case "cancel" -> cancel(a[0]);
            case "send" -> send(a[0], a[1]);
            case "orderOf" -> orderOf(a[0], a[1]);
            case "tuneFor" -> tuneFor(a[0], a[1]);
            case "pourFor" -> pourFor(a[0]);
            case "wagons" -> wagons(a[0]);
            case "account" -> account(a[0], a[1]);
            case "count" -> count(a[0]);
            case "undo" -> undo();
            case "type" -> type(a[0]);
            case "clearText" -> clearText();
            case "fault" -> fault(a[0]);
            case "frame" -> frame(a[0]);
            default -> throw new IllegalArgumentException(name);
        };
    }

    private long buy(int metal, int pounds) {
        range(metal, 0, 1);
        range(pounds, 1, 100000);
        need(state.stock.of(metal) + pounds <= 1000000, LIMIT);
        change();
        state.bought = state.bought.with(metal, pounds);
        state.stock = state.stock.with(metal, pounds);
        return state.stock.of(metal);
    }

    private long charge(int metal, int pounds) {
        range(metal, 0, 1);
        range(pounds, 1, 20000);
        need(state.stock.of(metal) >= pounds, IMPOSSIBLE);
        need(state.melt.weight() + pounds <= 20000, LIMIT);
        change();
        state.stock = state.stock.with(metal, -pounds);
        state.melt = state.melt.with(metal, pounds);
        return state.melt.weight();
    }

    private long scrap(int index) {
        Scrap lot = scrapAt(index);
        need(state.melt.weight() + lot.metal.weight() <= 20000, LIMIT);
        change();
        state.scrap.remove(index);
        Metal lost = lot.kind == 1 ? lot.metal.slag(state.settings) : NOTHING;
        state.slag = state.slag.plus(lost);
        state.melt = state.melt.plus(lot.metal.minus(lost));
        return state.melt.weight();
    }

    private long lot(int index, int what) {
        range(what, 0, 4);
        Scrap lot = scrapAt(index);
        return what == 4 ? lot.kind : lot.metal.of(what);
    }

    private long melt(int what) {
        range(what, 0, 5);
        return what < 4 ? state.melt.of(what) : state.burnt().of(what - 2);
    }

    private long set(int what, int value) {
        range(what, 0, 6);
        range(value, LEAST[what], MOST[what]);
        change();
        int before = state.settings[what];
        state.settings[what] = value;
        return before;
    }

    private long pour(int profile, int pounds) {
        range(profile, 0, 3);
        range(pounds, 1, 10000);
        need(state.burnt().weight() >= pounds + state.sprue(pounds), IMPOSSIBLE);
        need(state.remaining().size() < 12 && state.bells.size() < 100, LIMIT);
        change();
        state.slag = state.slag.plus(state.melt.slag(state.settings));
        Metal burnt = state.burnt();
        Metal bell = burnt.drawn(pounds);
        Metal rest = burnt.minus(bell);
        Metal sprue = rest.drawn(state.sprue(pounds));
        state.melt = rest.minus(sprue);
        state.addScrap(sprue, 0);
        boolean cracked = bell.alloy() < state.settings[2] || bell.alloy() > state.settings[3];
        state.bells.add(new Cast(bell, profile, pitch(profile, pounds, bell.alloy()), pounds, 0, cracked, false, -1));
        return state.bells.size() - 1;
    }

    private static Cast tuned(Cast b, int pounds, int tuning) {
        Metal left = b.metal.minus(b.metal.drawn(pounds));
        long pitch = Math.max(1, b.pitch - 1000L * tuning * pounds / b.metal.weight());
        int drawn = b.drawn + pounds;
        boolean cracked = drawn * (b.profile == 2 ? 20 : 10) > b.poured;
        return new Cast(left, b.profile, pitch, b.poured, drawn, cracked, false, -1);
    }

    private long tune(int bell, int pounds) {
        Cast b = cast(bell);
        range(pounds, 1, 1000);
        need(b.whole() && b.metal.weight() > pounds, IMPOSSIBLE);
        change();
        state.addScrap(b.metal.drawn(pounds), 1);
        state.bells.set(bell, tuned(b, pounds, state.settings[5]));
        return state.bells.get(bell).pitch;
    }

    private long smash(int bell) {
        Cast b = cast(bell);
        need(b.remains(), IMPOSSIBLE);
        change();
        state.addScrap(b.metal, 2);
        state.bells.set(bell, new Cast(NOTHING, b.profile, b.pitch, b.poured, b.drawn, b.cracked, true, -1));
        return b.metal.weight();
    }

    private long bell(int bell, int what) {
        Cast b = cast(bell);
        range(what, 0, 9);
        need(what > 3 || !b.smashed, NONE);
        need(what != 9 || b.sentFor >= 0, NONE);
        return what < 4 ? b.metal.of(what)
                : new long[] {b.profile, b.pitch, b.poured, b.drawn, b.state(), b.sentFor}[what - 4];
    }

    private long order(int profile, int pitch, int tolerance) {
        range(profile, 0, 3);
        range(pitch, 1, 20000);
        range(tolerance, 0, 500);
        need(state.open() < 8 && state.orders.size() < 100, LIMIT);
        change();
        state.orders.add(new Wish(profile, pitch, tolerance, 0));
        return state.orders.size() - 1;
    }

    private void endOrder(int order, int end) {
        Wish w = state.orders.get(order);
        state.orders.set(order, new Wish(w.profile, w.pitch, w.tolerance, end));
    }

    private long cancel(int order) {
        need(wish(order).state == 0, IMPOSSIBLE);
        change();
        endOrder(order, 2);
        return state.open();
    }

    private long send(int bell, int order) {
        Cast b = cast(bell);
        Wish w = wish(order);
        need(w.state == 0 && w.fits(b) && b.metal.weight() <= state.settings[6], IMPOSSIBLE);
        change();
        state.bells.set(bell, new Cast(b.metal, b.profile, b.pitch, b.poured, b.drawn, false, false, order));
        endOrder(order, 1);
        return b.metal.weight();
    }

    private long orderOf(int order, int what) {
        Wish w = wish(order);
        range(what, 0, 5);
        List<Integer> fitting = new ArrayList<>();
        for (int i = 0; i < state.bells.size(); i++) {
            if (w.fits(state.bells.get(i))) {
                fitting.add(i);
            }
        }
        need(what != 4 || !fitting.isEmpty(), NONE);
        return what == 4 ? fitting.get(0) : new int[] {w.profile, w.pitch, w.tolerance, w.state, 0, fitting.size()}[what];
    }

    private long tuneFor(int bell, int order) {
        Cast b = cast(bell);
        Wish w = wish(order);
        need(b.whole(), IMPOSSIBLE);
        if (w.fits(b)) {
            return 0;
        }
        for (int n = 1; n <= 1000 && n < b.metal.weight(); n++) {
            if (w.fits(tuned(b, n, state.settings[5]))) {
                return n;
            }
        }
        return NONE;
    }

    private long pourFor(int order) {
        Wish w = wish(order);
        Metal burnt = state.burnt();
        for (int n = 10000; n >= 1; n--) {
            if (n + state.sprue(n) <= burnt.weight() && pitch(w.profile, n, burnt.drawn(n).alloy()) >= w.pitch) {
                return n;
            }
        }
        return NONE;
    }

    private long wagons(int set) {
        List<Cast> remaining = state.remaining();
        need(set >= 0 && set < Math.pow(2, remaining.size()), INVALID);
        List<Long> weights = new ArrayList<>();
        for (int i = 0; i < remaining.size(); i++) {
            if ((set >> i) % 2 == 1) {
                weights.add(remaining.get(i).metal.weight());
            }
        }
        need(weights.stream().allMatch(weight -> weight <= state.settings[6]), IMPOSSIBLE);
        return fewest(weights, 0, new ArrayList<>(), weights.size());
    }

    /** Puts the bells one by one into each wagon that is there and into a new one. */
    private int fewest(List<Long> weights, int next, List<Long> loads, int best) {
        if (loads.size() >= best) {
            return best;
        }
        if (next == weights.size()) {
            return loads.size();
        }
        for (int i = 0; i < loads.size(); i++) {
            long before = loads.get(i);
            if (before + weights.get(next) <= state.settings[6]) {
                loads.set(i, before + weights.get(next));
                best = fewest(weights, next + 1, loads, best);
                loads.set(i, before);
            }
        }
        loads.add(weights.get(next));
        best = fewest(weights, next + 1, loads, best);
        loads.remove(loads.size() - 1);
        return best;
    }

    private long account(int metal, int what) {
        range(metal, 0, 1);
        range(what, 0, 6);
        return switch (what) {
            case 0 -> state.bought.of(metal);
            case 1 -> state.stock.of(metal);
            case 2 -> state.melt.of(metal);
            case 3 -> state.scrap.stream().mapToLong(lot -> lot.metal.of(metal)).sum();
            case 4 -> state.remaining().stream().mapToLong(bell -> bell.metal.of(metal)).sum();
            case 5 -> state.bells.stream().filter(bell -> bell.sentFor >= 0).mapToLong(bell -> bell.metal.of(metal)).sum();
            default -> state.slag.of(metal);
        };
    }

    private long count(int what) {
        need(what >= 0 && what <= 9 || what >= 20 && what <= 26, INVALID);
        return switch (what) {
            case 0 -> state.scrap.size();
            case 1 -> state.bells.size();
            case 2 -> state.remaining().size();
            case 3 -> state.remaining().stream().filter(Cast::cracked).count();
            case 4 -> state.bells.stream().filter(bell -> bell.sentFor >= 0).count();
            case 5 -> state.orders.size();
            case 6 -> state.open();
            case 7 -> state.orders.stream().filter(order -> order.state == 1).count();
            case 8 -> history.size();
            case 9 -> text.length();
            default -> state.settings[what - 20];
        };
    }

    private long undo() {
        need(!history.isEmpty(), IMPOSSIBLE);
        state = history.removeLast();
        return history.size();
    }

    private long type(int character) {
        range(character, 32, 126);
        need(text.length() < 60, LIMIT);
        text += (char) character;
        return text.length();
    }

    private long clearText() {
        int before = text.length();
        text = "";
        return before;
    }

    // A frame is read by recursion.

    private record Node(long weight, Node left, Node right) {
        boolean levelAt(long total) {
            return left == null ? total >= weight
                    : total % 2 == 0 && left.levelAt(total / 2) && right.levelAt(total / 2);
        }

        int beams() {
            return left == null ? 0 : 1 + left.beams() + right.beams();
        }

        int depth() {
            return left == null ? 0 : 1 + Math.max(left.depth(), right.depth());
        }

        long slant() {
            return left == null ? 0
                    : Math.max(Math.abs(left.weight - right.weight), Math.max(left.slant(), right.slant()));
        }
    }

    private static final class Fault extends RuntimeException {
        private static final long serialVersionUID = 1L;
        private final int position;
        private final int reason;

        Fault(int position, int reason) {
            super(null, null, false, false);
            this.position = position;
            this.reason = reason;
        }
    }

    private final class Parser {
        private int at = 0;
        private final Set<Integer> hung = new HashSet<>();

        String part() {
            if (at == text.length()) {
                throw new Fault(at, 4);
            }
            String rest = text.substring(at);
            return rest.matches("[0-9][0-9].*") ? rest.substring(0, 2) : rest.substring(0, 1);
        }

        void expect(String part) {
            if (!part().equals(part)) {
                throw new Fault(at, 1);
            }
            at++;
        }

        Node whole() {
            Node node = frame(5);
            if (at < text.length()) {
                throw new Fault(at, 1);
            }
            return node;
        }

        Node frame(int beamsLeft) {
            String part = part();
            if (part.matches("[0-9]+")) {
                return bell(part);
            }
            if (beamsLeft == 0) {
                throw new Fault(at, 1);
            }
            expect("(");
            Node left = frame(beamsLeft - 1);
            expect(",");
            Node right = frame(beamsLeft - 1);
            expect(")");
            return new Node(left.weight + right.weight, left, right);
        }

        Node bell(String part) {
            int number = Integer.parseInt(part);
            if (number >= state.bells.size() || !state.bells.get(number).remains()) {
                throw new Fault(at, 2);
            }
            if (!hung.add(number)) {
                throw new Fault(at, 3);
            }
            at += part.length();
            return new Node(state.bells.get(number).metal.weight(), null, null);
        }
    }

    private long fault(int what) {
        range(what, 0, 1);
        try {
            new Parser().whole();
            return NONE;
        } catch (Fault fault) {
            return what == 0 ? fault.position : fault.reason;
        }
    }

    private long frame(int what) {
        range(what, 0, 5);
        Parser parser = new Parser();
        Node node;
        try {
            node = parser.whole();
        } catch (Fault fault) {
            return IMPOSSIBLE;
        }
        if (what == 5) {
            long total = node.weight;
            while (!node.levelAt(total)) {
                total++;
            }
            return total - node.weight;
        }
        return new long[] {node.weight, parser.hung.size(), node.beams(), node.depth(), node.slant()}[what];
    }
}
