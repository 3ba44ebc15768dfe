/**
 * A small lazy language that describes how things are built.
 *
 * <p>Inside the class a VALUE is a long: a NUMBER as it is, PLAN n as {@link #PLAN} plus n. A
 * failure on its way to the call that answers it is {@link #NONE} plus its code, which no VALUE is.
 */
public final class LazyBuilder {
    public static final int DONE = 0;
    public static final int REFUSED = -1;
    public static final int FULL = -2;
    public static final int SYNTAX = -3;
    public static final int UNBOUND = -4;
    public static final int TYPE = -5;
    public static final int ABORT = -6;
    public static final int BROKEN = -7;
    public static final int LOOP = -8;
    public static final int CRAMPED = -9;
    public static final int LONG = -10;
    public static final int CLOSED = -11;
    public static final long NONE = -1000000000000L;
    public static final long PLAN = 1000000000000L;

    private static final int NAMES = 8;
    private static final int SHOWN = 8;
    private static final int MOST_CHARACTERS = 24;
    private static final int MOST_DEPTH = 8;
    private static final int MOST_PLANS = 30;
    private static final int MOST_INPUTS = 4;
    private static final int MOST_STEPS = 200;
    private static final int MOST_FAILURES = 30;
    private static final int BUILDERS = 10;

    // A name is worked out only once at a time, so that no more than the line's EXPRESSION and one
    // of each name can stand open inside one another.
    private static final int MOST_OPEN = (NAMES + 1) * MOST_DEPTH;

    private static final int SUM = 0;
    private static final int PRODUCT = 1;
    private static final int GREATEST = 2;
    private static final int HOW_MANY = 3;
    private static final int BREAKS = 4;
    private static final int HOW_MANY_BELOW = 100;

    private final Text line;
    private final Store store;
    private final Worker worker;
    private long shown;
    private int badPlace;

    public LazyBuilder() {
        line = new Text();
        store = new Store();
        worker = new Worker(store);
        shown = NONE;
        badPlace = -1;
    }

    public int type(int c) {
        return line.append(c);
    }

    public int types(long eight) {
        for (int shift = 56; shift >= 0; shift -= 8) {
            int c = (int) (eight >>> shift) & 255;
            if (c != 0) {
                int answer = line.append(c);
                if (answer < 0) {
                    return answer;
                }
            }
        }
        return line.length;
    }

    public int define(int name) {
        if (!isNameNumber(name)) {
            return REFUSED;
        }
        if (!readLine()) {
            return SYNTAX;
        }
        int depth = line.depth;
        worker.bind(name, line);
        line.clear();
        return depth;
    }

    public int undefine(int name) {
        if (!isNameNumber(name) || !worker.names[name].bound) {
            return REFUSED;
        }
        worker.unbind(name);
        return DONE;
    }

    public int force(int name) {
        if (!isNameNumber(name)) {
            return REFUSED;
        }
        if (worker.isClosed()) {
            return CLOSED;
        }
        return worker.answerOf(worker.workOutName(name));
    }

    public int show() {
        if (!readLine()) {
            return SYNTAX;
        }
        if (worker.isClosed()) {
            line.clear();
            return CLOSED;
        }
        long value = worker.workOutText(line);
        line.clear();
        if (!isFailure(value)) {
            shown = value;
        }
        return worker.answerOf(value);
    }

    public long value(int name) {
        if (name == SHOWN) {
            return shown;
        }
        return isNameNumber(name) ? worker.names[name].kept : NONE;
    }

    public int builder(int b, int kind) {
        if (b < 0 || b >= BUILDERS || kind < SUM || kind > BREAKS) {
            return REFUSED;
        }
        store.kinds[b] = kind;
        return DONE;
    }

    public int build(int plan) {
        if (store.planAt(plan) == null) {
            return REFUSED;
        }
        if (worker.isClosed()) {
            return CLOSED;
        }
        return worker.answerOf(store.partOf(PLAN + plan, MOST_PLANS));
    }

    public int root(int plan, boolean on) {
        Plan asked = store.planAt(plan);
        if (asked == null) {
            return REFUSED;
        }
        asked.isRoot = on;
        return DONE;
    }

    public int collect() {
        return store.sweep();
    }

    public long input(int plan, int i) {
        Plan asked = store.planAt(plan);
        if (asked == null || i < 0 || i >= asked.inputs.length) {
            return NONE;
        }
        return asked.inputs[i];
    }

    public int plan(int plan, int what) {
        Plan asked = store.planAt(plan);
        if (asked == null) {
            return REFUSED;
        }
        switch (what) {
            case 0:
                return asked.maker;
            case 1:
                return asked.inputs.length;
            case 2:
                return asked.isBuilt ? 1 : 0;
            case 3:
                return asked.result;
            case 4:
                return asked.isRoot ? 1 : 0;
            default:
                return REFUSED;
        }
    }

    public int count(int what) {
        switch (what) {
            case 0:
                return store.size;
            case 1:
                return store.builds;
            case 2:
                return worker.steps;
            case 3:
                return worker.failures;
            case 4:
                return line.length;
            case 5:
                return badPlace;
            case 6:
                return worker.namesBound();
            case 7:
                return worker.namesKept();
            default:
                return REFUSED;
        }
    }

    /** Whether the line is good; one that is not is emptied and its bad place kept. */
    private boolean readLine() {
        if (line.read()) {
            return true;
        }
        badPlace = line.badPlace;
        line.clear();
        return false;
    }

    private static boolean isNameNumber(int name) {
        return name >= 0 && name < NAMES;
    }

    private static boolean isDigit(int c) {
        return c >= '0' && c <= '9';
    }

    private static boolean isLetter(int c) {
        return c >= 'a' && c < 'a' + NAMES;
    }

    /** How many EXPRESSIONS must follow the sign; 0 if it is no such sign. */
    private static int partsAfter(int c) {
        switch (c) {
            case '!':
            case 'O':
                return 1;
            case '+':
            case '-':
            case '*':
            case '<':
            case 'T':
                return 2;
            case '?':
                return 3;
            default:
                return 0;
        }
    }

    private static boolean isFailure(long value) {
        return value < NONE;
    }

    private static boolean isPlan(long value) {
        return value > PLAN;
    }

    /** The characters of a line and, once it was read and found good, how it falls into parts. */
    private static final class Text {
        private static final int BAD = -1;

        final int[] codes;
        final int[] ends;
        int length;
        int depth;
        int badPlace;

        Text() {
            codes = new int[MOST_CHARACTERS];
            ends = new int[MOST_CHARACTERS];
        }

        int append(int c) {
            if (!belongs(c)) {
                return REFUSED;
            }
            if (length >= MOST_CHARACTERS) {
                return FULL;
            }
            codes[length] = c;
            length++;
            return length;
        }

        void clear() {
            length = 0;
        }

        void copyFrom(Text other) {
            System.arraycopy(other.codes, 0, codes, 0, MOST_CHARACTERS);
            System.arraycopy(other.ends, 0, ends, 0, MOST_CHARACTERS);
            length = other.length;
            depth = other.depth;
        }

        /** The character at the place; 0, which is none of the line's, outside the text. */
        int codeAt(int place) {
            return place >= 0 && place < length ? codes[place] : 0;
        }

        /** The place behind the EXPRESSION that begins at the place. */
        int endOf(int place) {
            return place >= 0 && place < length ? ends[place] : length;
        }

        /** Whether the text is good; finds its parts and its depth then, else its bad place. */
        boolean read() {
            depth = 0;
            int end = readExpression(0, 1);
            if (end == BAD) {
                return false;
            }
            if (end < length) {
                badPlace = end;
                return false;
            }
            return true;
        }

        private int readExpression(int at, int level) {
            if (at >= length || level > MOST_DEPTH) {
                return badAt(at);
            }
            int end = readKind(at, level);
            ends[at] = end;
            depth = Math.max(depth, level);
            return end;
        }

        private int readKind(int at, int level) {
            int c = codeAt(at);
            if (isDigit(c) || isLetter(c)) {
                return at + 1;
            }
            if (c == 'D') {
                return readPlan(at, level);
            }
            int parts = partsAfter(c);
            // At the lowest level nothing fits below, so that the sign itself is bad already.
            if (parts == 0 || level >= MOST_DEPTH) {
                return badAt(at);
            }
            int end = at + 1;
            for (int i = 0; i < parts && end != BAD; i++) {
                end = readExpression(end, level + 1);
            }
            return end;
        }

        private int readPlan(int at, int level) {
            if (!isDigit(codeAt(at + 1))) {
                return badAt(at + 1);
            }
            if (codeAt(at + 2) != '(') {
                return badAt(at + 2);
            }
            int end = at + 3;
            for (int i = 0; i < MOST_INPUTS && codeAt(end) != ')'; i++) {
                end = readExpression(end, level + 1);
                if (end == BAD) {
                    return BAD;
                }
            }
            return codeAt(end) == ')' ? end + 1 : badAt(end);
        }

        private int badAt(int place) {
            badPlace = place;
            return BAD;
        }

        private static boolean belongs(int c) {
            return isDigit(c) || isLetter(c) || partsAfter(c) > 0 || c == 'D' || c == '(' || c == ')';
        }
    }

    /** What a name stands for, and how far its working out is. */
    private static final class Name {
        final Text text;
        boolean bound;
        boolean busy;
        long kept;

        Name() {
            text = new Text();
            kept = NONE;
        }
    }

    /** A PLAN of the store. */
    private static final class Plan {
        final int maker;
        final long[] inputs;
        boolean isBuilt;
        boolean isRoot;
        boolean isWanted;
        int result;

        Plan(int maker, long[] inputs) {
            this.maker = maker;
            this.inputs = inputs;
        }

        boolean isAlike(int otherMaker, long[] row, int from, int size) {
            if (maker != otherMaker || inputs.length != size) {
                return false;
            }
            for (int i = 0; i < size; i++) {
                if (inputs[i] != row[from + i]) {
                    return false;
                }
            }
            return true;
        }
    }

    /** The PLANS, and the builders that build them. */
    private static final class Store {
        final Plan[] plans;
        final int[] kinds;
        int size;
        int builds;

        Store() {
            plans = new Plan[MOST_PLANS];
            kinds = new int[BUILDERS];
        }

        /** The PLAN with the number; null if there is no such. */
        Plan planAt(int number) {
            return planIn(PLAN + number);
        }

        /** The PLAN that the VALUE is; null if it is a NUMBER. */
        private Plan planIn(long value) {
            long number = value - PLAN;
            return number >= 1 && number <= size ? plans[(int) number - 1] : null;
        }

        /** The PLAN with the builder and the INPUTS, which stand in the row, as a VALUE; or CRAMPED. */
        long planOf(int maker, long[] row, int from, int inputs) {
            for (int i = 0; i < size; i++) {
                if (plans[i].isAlike(maker, row, from, inputs)) {
                    return PLAN + i + 1;
                }
            }
            if (size >= MOST_PLANS) {
                return NONE + CRAMPED;
            }
            long[] own = new long[inputs];
            System.arraycopy(row, from, own, 0, inputs);
            plans[size] = new Plan(maker, own);
            size++;
            return PLAN + size;
        }

        /**
         * What the VALUE is as a PART: a NUMBER itself, a PLAN its RESULT, for which it is built if it
         * is not yet; or BROKEN. A PLAN's INPUTS came into the store before it, so that as many levels
         * as there can be PLANS are enough.
         */
        long partOf(long value, int levels) {
            Plan plan = planIn(value);
            if (plan == null) {
                return value;
            }
            if (plan.isBuilt) {
                return plan.result;
            }
            if (levels <= 0) {
                return NONE + BROKEN;
            }
            for (int i = 0; i < plan.inputs.length; i++) {
                long part = partOf(plan.inputs[i], levels - 1);
                if (isFailure(part)) {
                    return part;
                }
            }
            return finish(plan);
        }

        /** Builds a PLAN whose INPUTS are built. */
        private long finish(Plan plan) {
            int sum = 0;
            int product = 1;
            int greatest = 0;
            for (int i = 0; i < plan.inputs.length; i++) {
                Plan input = planIn(plan.inputs[i]);
                int part = input == null ? (int) plan.inputs[i] : input.result;
                sum += part;
                product *= part;
                greatest = i == 0 ? part : Math.max(greatest, part);
            }
            switch (kinds[plan.maker]) {
                case SUM:
                    return finishWith(plan, sum);
                case PRODUCT:
                    return finishWith(plan, product);
                case GREATEST:
                    return finishWith(plan, greatest);
                case HOW_MANY:
                    return greatest < HOW_MANY_BELOW
                            ? finishWith(plan, plan.inputs.length) : NONE + BROKEN;
                default:
                    return NONE + BROKEN;
            }
        }

        private int finishWith(Plan plan, int result) {
            plan.result = result;
            plan.isBuilt = true;
            builds++;
            return result;
        }

        /** Unbuilds what no ROOT wants; answers how many PLANS these were. */
        int sweep() {
            for (int i = 0; i < size; i++) {
                plans[i].isWanted = plans[i].isRoot;
            }
            int swept = 0;
            // From the latest down, as all that want a PLAN came after it.
            for (int i = size - 1; i >= 0; i--) {
                if (plans[i].isWanted) {
                    wantInputs(plans[i]);
                } else if (plans[i].isBuilt) {
                    plans[i].isBuilt = false;
                    plans[i].result = 0;
                    swept++;
                }
            }
            return swept;
        }

        private void wantInputs(Plan plan) {
            for (int i = 0; i < plan.inputs.length; i++) {
                Plan wanted = planIn(plan.inputs[i]);
                if (wanted != null) {
                    wanted.isWanted = true;
                }
            }
        }
    }

    /** Works EXPRESSIONS out; counts the STEPS and the FAILURES. */
    private static final class Worker {
        final Name[] names;
        final Store store;
        // Each level that stands open has its own places here for the INPUTS of a D.
        final long[] lists;
        int steps;
        int failures;

        Worker(Store store) {
            this.store = store;
            names = new Name[NAMES];
            for (int i = 0; i < NAMES; i++) {
                names[i] = new Name();
            }
            lists = new long[(MOST_OPEN + 1) * MOST_INPUTS];
        }

        void bind(int name, Text line) {
            names[name].text.copyFrom(line);
            names[name].bound = true;
            forgetValues();
        }

        void unbind(int name) {
            names[name].bound = false;
            forgetValues();
        }

        private void forgetValues() {
            for (int i = 0; i < NAMES; i++) {
                names[i].kept = NONE;
            }
        }

        int namesBound() {
            int bound = 0;
            for (int i = 0; i < NAMES; i++) {
                bound += names[i].bound ? 1 : 0;
            }
            return bound;
        }

        int namesKept() {
            int kept = 0;
            for (int i = 0; i < NAMES; i++) {
                kept += names[i].kept != NONE ? 1 : 0;
            }
            return kept;
        }

        boolean isClosed() {
            return failures >= MOST_FAILURES;
        }

        /** What a call answers that came to this; a failure is counted. */
        int answerOf(long value) {
            if (!isFailure(value)) {
                return DONE;
            }
            failures++;
            return (int) (value - NONE);
        }

        long workOutName(int name) {
            // The name is an EXPRESSION of its own here, and so the first STEP.
            steps = 1;
            return workName(name, 1);
        }

        long workOutText(Text text) {
            steps = 0;
            return work(text, 0, 1);
        }

        private long work(Text text, int at, int open) {
            if (steps >= MOST_STEPS || open > MOST_OPEN) {
                return NONE + LONG;
            }
            steps++;
            int c = text.codeAt(at);
            if (isDigit(c)) {
                return c - '0';
            }
            if (isLetter(c)) {
                return workName(c - 'a', open);
            }
            switch (c) {
                case '?':
                    return workChoice(text, at, open);
                case '!':
                    return workAbort(text, at, open);
                case 'T':
                    return workTry(text, at, open);
                case 'D':
                    return workPlan(text, at, open);
                case 'O':
                    return workResult(text, at, open);
                default:
                    return workPair(text, at, open);
            }
        }

        private long workName(int number, int open) {
            Name name = names[number];
            if (!name.bound) {
                return NONE + UNBOUND;
            }
            if (name.busy) {
                return NONE + LOOP;
            }
            if (name.kept != NONE) {
                return name.kept;
            }
            name.busy = true;
            long value = work(name.text, 0, open + 1);
            name.busy = false;
            if (!isFailure(value)) {
                name.kept = value;
            }
            return value;
        }

        private long workPair(Text text, int at, int open) {
            long first = work(text, at + 1, open + 1);
            if (isFailure(first)) {
                return first;
            }
            long second = work(text, text.endOf(at + 1), open + 1);
            if (isFailure(second)) {
                return second;
            }
            if (isPlan(first) || isPlan(second)) {
                return NONE + TYPE;
            }
            return combine(text.codeAt(at), (int) first, (int) second);
        }

        private static int combine(int sign, int first, int second) {
            switch (sign) {
                case '+':
                    return first + second;
                case '-':
                    return first - second;
                case '*':
                    return first * second;
                default:
                    return first < second ? 1 : 0;
            }
        }

        private long workChoice(Text text, int at, int open) {
            long first = work(text, at + 1, open + 1);
            if (isFailure(first)) {
                return first;
            }
            if (isPlan(first)) {
                return NONE + TYPE;
            }
            int second = text.endOf(at + 1);
            return work(text, first != 0 ? second : text.endOf(second), open + 1);
        }

        private long workAbort(Text text, int at, int open) {
            long inner = work(text, at + 1, open + 1);
            return isFailure(inner) ? inner : NONE + ABORT;
        }

        private long workTry(Text text, int at, int open) {
            long first = work(text, at + 1, open + 1);
            if (!canBeMadeGood(first)) {
                return first;
            }
            failures++;
            return work(text, text.endOf(at + 1), open + 1);
        }

        private static boolean canBeMadeGood(long value) {
            return value == NONE + UNBOUND || value == NONE + TYPE
                    || value == NONE + ABORT || value == NONE + BROKEN;
        }

        private long workPlan(Text text, int at, int open) {
            int from = open * MOST_INPUTS;
            int inputs = 0;
            int place = at + 3;
            while (inputs < MOST_INPUTS && text.codeAt(place) != ')') {
                long value = work(text, place, open + 1);
                if (isFailure(value)) {
                    return value;
                }
                lists[from + inputs] = value;
                inputs++;
                place = text.endOf(place);
            }
            return store.planOf(text.codeAt(at + 1) - '0', lists, from, inputs);
        }

        private long workResult(Text text, int at, int open) {
            long inner = work(text, at + 1, open + 1);
            if (isFailure(inner)) {
                return inner;
            }
            return isPlan(inner) ? store.partOf(inner, MOST_PLANS) : NONE + TYPE;
        }
    }
}
