import java.util.ArrayDeque;
import java.util.ArrayList;
import java.util.Deque;
import java.util.HashMap;
import java.util.HashSet;
import java.util.List;
import java.util.Map;
import java.util.Set;
import java.util.TreeMap;
import java.util.TreeSet;

/**
 * The document once more, written another way than the program: trees, maps and exceptions, and a
 * stack of what is still needed for the bad place. The random runs hold the two against each other.
 */
final class Model {
    private static final String CHARACTERS = "0123456789abcdefgh+-*<?!TDO()";

    private record Tree(char sign, int maker, List<Tree> parts) {
        int depth() {
            return 1 + parts.stream().mapToInt(Tree::depth).max().orElse(0);
        }
    }

    private record Description(int maker, List<Long> inputs) { }

    private record Need(String what, int level, int listed) { }

    private static final class Failure extends Exception {
        private static final long serialVersionUID = 1;
        final int code;

        Failure(int code) {
            this.code = code;
        }
    }

    private interface Work {
        void run() throws Failure;
    }

    private String line = "";
    private final Map<Integer, Tree> bound = new TreeMap<>();
    private final Map<Integer, Long> kept = new TreeMap<>();
    private final Set<Integer> busy = new HashSet<>();
    private final List<Description> plans = new ArrayList<>();
    private final Map<Integer, Integer> results = new HashMap<>();
    private final Set<Integer> roots = new TreeSet<>();
    private final Map<Integer, Integer> kinds = new HashMap<>();
    private Long shown;
    private int builds;
    private int steps;
    private int failures;
    private int badPlace = -1;

    int type(int c) {
        if (c < 1 || c > 255 || CHARACTERS.indexOf(c) < 0) {
            return LazyBuilder.REFUSED;
        }
        if (line.length() == 24) {
            return LazyBuilder.FULL;
        }
        line += (char) c;
        return line.length();
    }

    int types(long eight) {
        for (byte b : java.nio.ByteBuffer.allocate(8).putLong(eight).array()) {
            int answer = b == 0 ? 0 : type(Byte.toUnsignedInt(b));
            if (answer < 0) {
                return answer;
            }
        }
        return line.length();
    }

    int define(int name) {
        if (name < 0 || name > 7) {
            return LazyBuilder.REFUSED;
        }
        if (isBad()) {
            return LazyBuilder.SYNTAX;
        }
        Tree tree = takeTree();
        bound.put(name, tree);
        kept.clear();
        return tree.depth();
    }

    int undefine(int name) {
        if (bound.remove(name) == null) {
            return LazyBuilder.REFUSED;
        }
        kept.clear();
        return LazyBuilder.DONE;
    }

    int force(int name) {
        if (name < 0 || name > 7) {
            return LazyBuilder.REFUSED;
        }
        return answer(() -> {
            steps = 0;
            work(new Tree((char) ('a' + name), 0, List.of()));
        });
    }

    int show() {
        if (isBad()) {
            return LazyBuilder.SYNTAX;
        }
        Tree tree = takeTree();
        return answer(() -> {
            steps = 0;
            shown = work(tree);
        });
    }

    long value(int name) {
        Long value = name == 8 ? shown : kept.get(name);
        return value == null ? LazyBuilder.NONE : value;
    }

    int builder(int b, int kind) {
        if (b < 0 || b > 9 || kind < 0 || kind > 4) {
            return LazyBuilder.REFUSED;
        }
        kinds.put(b, kind);
        return LazyBuilder.DONE;
    }

    int build(int plan) {
        return isPlan(plan) ? answer(() -> make(plan)) : LazyBuilder.REFUSED;
    }

    int root(int plan, boolean on) {
        if (!isPlan(plan)) {
            return LazyBuilder.REFUSED;
        }
        if (on) {
            roots.add(plan);
        } else {
            roots.remove(plan);
        }
        return LazyBuilder.DONE;
    }

    int collect() {
        Set<Integer> wanted = new HashSet<>();
        Deque<Integer> open = new ArrayDeque<>(roots);
        while (!open.isEmpty()) {
            int plan = open.pop();
            if (wanted.add(plan)) {
                plans.get(plan - 1).inputs().stream().filter(v -> v > LazyBuilder.PLAN)
                        .forEach(v -> open.push((int) (v - LazyBuilder.PLAN)));
            }
        }
        int before = results.size();
        results.keySet().retainAll(wanted);
        return before - results.size();
    }

    long input(int plan, int i) {
        if (!isPlan(plan) || i < 0 || i >= plans.get(plan - 1).inputs().size()) {
            return LazyBuilder.NONE;
        }
        return plans.get(plan - 1).inputs().get(i);
    }

    int plan(int plan, int what) {
        if (!isPlan(plan) || what < 0 || what > 4) {
            return LazyBuilder.REFUSED;
        }
        Description asked = plans.get(plan - 1);
        int[] all = {asked.maker(), asked.inputs().size(), results.containsKey(plan) ? 1 : 0,
            results.getOrDefault(plan, 0), roots.contains(plan) ? 1 : 0};
        return all[what];
    }

    int count(int what) {
        int[] all = {plans.size(), builds, steps, failures, line.length(), badPlace, bound.size(),
            kept.size()};
        return what < 0 || what > 7 ? LazyBuilder.REFUSED : all[what];
    }

    private boolean isPlan(int plan) {
        return plan >= 1 && plan <= plans.size();
    }

    private int answer(Work work) {
        if (failures >= 30) {
            return LazyBuilder.CLOSED;
        }
        try {
            work.run();
            return LazyBuilder.DONE;
        } catch (Failure failure) {
            failures++;
            return failure.code;
        }
    }

    private boolean isBad() {
        int place = badPlaceOf(line);
        if (place < 0) {
            return false;
        }
        badPlace = place;
        line = "";
        return true;
    }

    /** The bad place of the text, or -1 if it is good. */
    static int badPlaceOf(String text) {
        Deque<Need> needs = new ArrayDeque<>();
        needs.push(new Need("expression", 1, 0));
        for (int i = 0; i < text.length(); i++) {
            if (needs.isEmpty() || !meets(text.charAt(i), needs.pop(), needs)) {
                return i;
            }
        }
        return needs.isEmpty() ? -1 : text.length();
    }

    private static boolean meets(char c, Need need, Deque<Need> needs) {
        switch (need.what()) {
            case "digit":
                return Character.isDigit(c);
            case "(":
                return c == '(';
            case "list":
                if (c == ')') {
                    return true;
                }
                needs.push(new Need("list", need.level(), need.listed() + 1));
                return need.listed() < 4 && meets(c, new Need("expression", need.level(), 0), needs);
            default:
                return begins(c, need.level(), needs);
        }
    }

    private static boolean begins(char c, int level, Deque<Need> needs) {
        if (level > 8 || c == '(' || c == ')') {
            return false;
        }
        if (c == 'D') {
            needs.push(new Need("list", level + 1, 0));
            needs.push(new Need("(", level, 0));
            needs.push(new Need("digit", level, 0));
        }
        int parts = arity(c);
        for (int i = 0; i < parts; i++) {
            needs.push(new Need("expression", level + 1, 0));
        }
        return parts == 0 || level < 8;
    }

    private static int arity(char c) {
        return "!O".indexOf(c) >= 0 ? 1 : "+-*<T".indexOf(c) >= 0 ? 2 : c == '?' ? 3 : 0;
    }

    private Tree takeTree() {
        Deque<Character> rest = new ArrayDeque<>();
        for (char c : line.toCharArray()) {
            rest.add(c);
        }
        line = "";
        return tree(rest);
    }

    private static Tree tree(Deque<Character> rest) {
        char sign = rest.pop();
        int maker = 0;
        List<Tree> parts = new ArrayList<>();
        if (sign == 'D') {
            maker = rest.pop() - '0';
            rest.pop();
            while (rest.peek() != ')') {
                parts.add(tree(rest));
            }
            rest.pop();
        }
        for (int i = 0; i < arity(sign); i++) {
            parts.add(tree(rest));
        }
        return new Tree(sign, maker, parts);
    }

    private long work(Tree tree) throws Failure {
        if (steps == 200) {
            throw new Failure(LazyBuilder.LONG);
        }
        steps++;
        List<Tree> parts = tree.parts();
        char sign = tree.sign();
        if (Character.isDigit(sign)) {
            return sign - '0';
        }
        if (Character.isLowerCase(sign)) {
            return workName(sign - 'a');
        }
        switch (sign) {
            case '?':
                return work(number(work(parts.get(0))) != 0 ? parts.get(1) : parts.get(2));
            case '!':
                work(parts.get(0));
                throw new Failure(LazyBuilder.ABORT);
            case 'T':
                return workTry(parts);
            case 'D':
                return workPlan(tree);
            case 'O':
                return workResult(work(parts.get(0)));
            default:
                return workPair(sign, work(parts.get(0)), work(parts.get(1)));
        }
    }

    private static int number(long value) throws Failure {
        if (value > LazyBuilder.PLAN) {
            throw new Failure(LazyBuilder.TYPE);
        }
        return (int) value;
    }

    private long workName(int name) throws Failure {
        if (!bound.containsKey(name)) {
            throw new Failure(LazyBuilder.UNBOUND);
        }
        if (busy.contains(name)) {
            throw new Failure(LazyBuilder.LOOP);
        }
        if (!kept.containsKey(name)) {
            busy.add(name);
            try {
                kept.put(name, work(bound.get(name)));
            } finally {
                busy.remove(name);
            }
        }
        return kept.get(name);
    }

    private static long workPair(char sign, long first, long second) throws Failure {
        int a = number(first);
        int b = number(second);
        return sign == '+' ? a + b : sign == '-' ? a - b : sign == '*' ? a * b : a < b ? 1 : 0;
    }

    private long workTry(List<Tree> parts) throws Failure {
        try {
            return work(parts.get(0));
        } catch (Failure failure) {
            Set<Integer> good = Set.of(LazyBuilder.UNBOUND, LazyBuilder.TYPE, LazyBuilder.ABORT,
                    LazyBuilder.BROKEN);
            if (!good.contains(failure.code)) {
                throw failure;
            }
        }
        failures++;
        return work(parts.get(1));
    }

    private long workPlan(Tree tree) throws Failure {
        List<Long> inputs = new ArrayList<>();
        for (Tree part : tree.parts()) {
            inputs.add(work(part));
        }
        Description description = new Description(tree.maker(), inputs);
        if (!plans.contains(description)) {
            if (plans.size() == 30) {
                throw new Failure(LazyBuilder.CRAMPED);
            }
            plans.add(description);
        }
        return LazyBuilder.PLAN + plans.indexOf(description) + 1;
    }

    private long workResult(long value) throws Failure {
        if (value < LazyBuilder.PLAN) {
            throw new Failure(LazyBuilder.TYPE);
        }
        return make((int) (value - LazyBuilder.PLAN));
    }

    private int make(int plan) throws Failure {
        if (results.containsKey(plan)) {
            return results.get(plan);
        }
        Description description = plans.get(plan - 1);
        List<Integer> parts = new ArrayList<>();
        for (long input : description.inputs()) {
            boolean isPlan = input > LazyBuilder.PLAN;
            parts.add(isPlan ? make((int) (input - LazyBuilder.PLAN)) : (int) input);
        }
        int result = outcome(kinds.getOrDefault(description.maker(), 0), parts);
        results.put(plan, result);
        builds++;
        return result;
    }

    private static int outcome(int kind, List<Integer> parts) throws Failure {
        int greatest = parts.stream().mapToInt(Integer::intValue).max().orElse(0);
        if (kind == 4 || kind == 3 && greatest >= 100) {
            throw new Failure(LazyBuilder.BROKEN);
        }
        switch (kind) {
            case 0:
                return parts.stream().reduce(0, (a, b) -> a + b);
            case 1:
                return parts.stream().reduce(1, (a, b) -> a * b);
            case 2:
                return greatest;
            default:
                return parts.size();
        }
    }
}
