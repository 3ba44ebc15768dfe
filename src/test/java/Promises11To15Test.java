/** The sentences of the promises 11 to 15: root, collect, input, plan and count. */
final class Promises11To15Test {
    private static final Sentences S = new Sentences();
    private static final int DONE = LazyBuilder.DONE;
    private static final int REFUSED = LazyBuilder.REFUSED;
    private static final long NONE = LazyBuilder.NONE;
    private static final int[] NO_PLANS = {Integer.MIN_VALUE, -1, 0, 5, 30, 31, Integer.MAX_VALUE};

    public static void main(String[] args) {
        S.under("Promise 11: root");
        S.says("The PLAN is a ROOT (on) or not: DONE", Promises11To15Test::rootOrNot);
        S.says("no such: REFUSED.", Promises11To15Test::noSuchRoot);
        S.under("Promise 12: collect");
        S.says("Every BUILT PLAN that is neither a ROOT nor an INPUT, at any distance, of a ROOT"
                + " is not BUILT any more.", Promises11To15Test::collects);
        S.says("VALUES stay.", Promises11To15Test::valuesStay);
        S.says("Answers how many these were.", Promises11To15Test::howManyCollected);
        S.under("Promise 13: input");
        S.says("INPUT i (from 0) of the PLAN", Promises11To15Test::inputs);
        S.says("NONE if there is none.", Promises11To15Test::noInput);
        plan();
        count();
        S.end();
    }

    private static void plan() {
        S.under("Promise 14: plan");
        S.says("its builder (0)", () -> asks(withFour(), 0, 9, 0, 1, 2));
        S.says("how many INPUTS (1)", () -> asks(withFour(), 1, 0, 1, 4, 2));
        S.says("1 if BUILT, else 0 (2)", () -> asks(withFour(), 2, 1, 1, 1, 0));
        S.says("its RESULT, 0 if not BUILT (3)", () -> asks(withFour(), 3, 0, 7, -1, 0));
        S.says("1 if a ROOT, else 0 (4)", () -> asks(withFour(), 4, 0, 0, 1, 1));
        S.says("no such PLAN, another what: REFUSED", Promises11To15Test::wrongAsking);
        S.says("(a RESULT may be that too).", Promises11To15Test::resultOfMinusOne);
    }

    private static void count() {
        S.under("Promise 15: count");
        S.says("PLANS (0)", Promises11To15Test::plansCounted);
        S.says("BUILDS so far (1)", Promises11To15Test::buildsCounted);
        S.says("STEPS of the latest force or show that wasn't refused, SYNTAX or CLOSED"
                + " (2; 0 if there was none)", Promises11To15Test::stepsCounted);
        S.says("FAILURES (3)", Promises11To15Test::failuresCounted);
        S.says("the line's length (4)", Promises11To15Test::lengthCounted);
        S.says("the latest bad place, -1 if there was none (5)", Promises11To15Test::badPlaceTold);
        S.says("names bound (6)", Promises11To15Test::boundCounted);
        S.says("names with a VALUE kept (7)", Promises11To15Test::keptCounted);
        S.says("another what: REFUSED.", Promises11To15Test::wrongCounts);
    }

    /** Four plans: D9(), D0(7) and D1(-09 4 4 0), BUILT, and D2(1 D9()), not BUILT; 3, 4 are ROOTS. */
    private static LazyBuilder withFour() {
        LazyBuilder x = new LazyBuilder();
        Checks.show(x, "OD9()");
        Checks.show(x, "OD0(7)");
        Checks.show(x, "OD1(-09440)");
        Checks.show(x, "D2(1D9())");
        x.root(3, true);
        x.root(4, true);
        return x;
    }

    private static void asks(LazyBuilder x, int what, int... want) {
        for (int plan = 1; plan <= want.length; plan++) {
            S.due("plan(" + plan + ", " + what + ")", x.plan(plan, what), want[plan - 1]);
        }
    }

    private static void built(LazyBuilder x, String want) {
        StringBuilder got = new StringBuilder();
        for (int plan = 1; plan <= x.count(0); plan++) {
            got.append(x.plan(plan, 2));
        }
        S.same("BUILT", got.toString(), want);
    }

    private static void rootOrNot() {
        LazyBuilder x = withFour();
        for (int plan = 1; plan <= 4; plan++) {
            for (boolean on : new boolean[] {true, true, false, false, true}) {
                S.due("root(" + plan + ", " + on + ")", x.root(plan, on), DONE);
                S.due("plan(" + plan + ", 4)", x.plan(plan, 4), on ? 1 : 0);
            }
        }
        S.due("nothing is built by that", x.plan(4, 2), 0);
        S.due("the builds", x.count(1), 3);
    }

    private static void noSuchRoot() {
        LazyBuilder x = withFour();
        S.due("root(1, true) of an empty store", new LazyBuilder().root(1, true), REFUSED);
        for (int plan : NO_PLANS) {
            S.due("root(" + plan + ", true)", x.root(plan, true), REFUSED);
            S.due("root(" + plan + ", false)", x.root(plan, false), REFUSED);
        }
        asks(x, 4, 0, 0, 1, 1);
    }

    private static void collects() {
        LazyBuilder x = new LazyBuilder();
        Checks.show(x, "OD1(D2(D3(D4(5))))");
        Checks.show(x, "OD5(D4(5)D6(7))");
        built(x, "111111");
        x.root(3, true);
        x.collect();
        built(x, "111000");
        x.root(3, false);
        x.root(6, true);
        x.collect();
        built(x, "100000");
        x.root(1, true);
        x.root(6, false);
        x.collect();
        built(x, "100000");
        x.root(1, false);
        x.collect();
        built(x, "000000");
        collectsAtTheGreatestDistance();
    }

    private static void collectsAtTheGreatestDistance() {
        LazyBuilder x = new LazyBuilder();
        for (char name = 'a'; name <= 'f'; name++) {
            char inner = name == 'f' ? '9' : (char) (name + 1);
            Checks.define(x, name, "D0(D0(D0(D0(D0(" + inner + ")))))");
        }
        x.force(0);
        x.build(30);
        x.root(30, true);
        S.due("collect with the outermost of 30", x.collect(), 0);
        x.root(30, false);
        x.root(1, true);
        S.due("collect with the innermost of 30", x.collect(), 29);
        S.due("the innermost", x.plan(1, 2), 1);
        S.due("the one round it", x.plan(2, 2), 0);
    }

    private static void valuesStay() {
        LazyBuilder x = new LazyBuilder();
        Checks.define(x, 'a', "D1(2)");
        Checks.define(x, 'b', "Oa");
        x.force(1);
        Checks.show(x, "+b1");
        x.collect();
        S.due("the plan is not BUILT", x.plan(1, 2), 0);
        S.due("value of a", x.value(0), LazyBuilder.PLAN + 1);
        S.due("value of b", x.value(1), 2);
        S.due("what was SHOWN", x.value(8), 3);
        S.due("kept", x.count(7), 2);
        S.due("plans", x.count(0), 1);
        S.due("its INPUT", x.input(1, 0), 2);
        S.due("show of b", Checks.shown(x, "b"), 2);
        S.due("it is still not BUILT", x.plan(1, 2), 0);
    }

    private static void howManyCollected() {
        S.due("of an empty store", new LazyBuilder().collect(), 0);
        LazyBuilder x = withFour();
        S.due("with ROOTS, one of them not BUILT", x.collect(), 1);
        S.due("again", x.collect(), 0);
        x.root(3, false);
        x.root(4, false);
        S.due("without ROOTS", x.collect(), 2);
        S.due("again", x.collect(), 0);
        S.due("the builds stay counted", x.count(1), 3);
    }

    private static void inputs() {
        LazyBuilder x = withFour();
        long[] third = {-9, 4, 4, 0};
        for (int i = 0; i < 4; i++) {
            S.due("input(3, " + i + ")", x.input(3, i), third[i]);
        }
        S.due("input(2, 0)", x.input(2, 0), 7);
        S.due("input(4, 0)", x.input(4, 0), 1);
        S.due("input(4, 1)", x.input(4, 1), LazyBuilder.PLAN + 1);
    }

    private static void noInput() {
        LazyBuilder x = withFour();
        int[] counts = {0, 1, 4, 2};
        for (int plan = 1; plan <= 4; plan++) {
            for (int i : new int[] {Integer.MIN_VALUE, -1, counts[plan - 1], 4, 5, Integer.MAX_VALUE}) {
                S.due("input(" + plan + ", " + i + ")", x.input(plan, i), NONE);
            }
        }
        for (int plan : NO_PLANS) {
            S.due("input(" + plan + ", 0)", x.input(plan, 0), NONE);
        }
        S.due("input(1, 0) of an empty store", new LazyBuilder().input(1, 0), NONE);
    }

    private static void wrongAsking() {
        LazyBuilder x = withFour();
        for (int plan : NO_PLANS) {
            for (int what = 0; what < 5; what++) {
                S.due("plan(" + plan + ", " + what + ")", x.plan(plan, what), REFUSED);
            }
        }
        for (int what : new int[] {Integer.MIN_VALUE, -1, 5, 6, Integer.MAX_VALUE}) {
            S.due("plan(2, " + what + ")", x.plan(2, what), REFUSED);
        }
        S.due("plan(1, 0) of an empty store", new LazyBuilder().plan(1, 0), REFUSED);
    }

    private static void resultOfMinusOne() {
        LazyBuilder x = withFour();
        S.due("plan(3, 2)", x.plan(3, 2), 1);
        S.due("plan(3, 3)", x.plan(3, 3), REFUSED);
        S.due("show of its RESULT", Checks.shown(x, "OD1(-09440)"), -1);
    }

    private static void plansCounted() {
        LazyBuilder x = new LazyBuilder();
        S.due("at first", x.count(0), 0);
        for (int i = 0; i < 30; i++) {
            Checks.show(x, "D" + i / 10 + "(" + i % 10 + ")");
            S.due("plans", x.count(0), i + 1);
        }
        Checks.show(x, "D9()");
        S.due("behind CRAMPED", x.count(0), 30);
        Checks.show(x, "D0(0)");
        x.collect();
        S.due("behind one that is there, and collect", x.count(0), 30);
    }

    private static void buildsCounted() {
        LazyBuilder x = new LazyBuilder();
        S.due("at first", x.count(1), 0);
        Checks.show(x, "D1(D2())");
        S.due("behind show without O", x.count(1), 0);
        x.build(2);
        S.due("behind build", x.count(1), 2);
        Checks.show(x, "OD1(D2())");
        S.due("behind O of a BUILT one", x.count(1), 2);
        x.collect();
        S.due("behind collect", x.count(1), 2);
        x.build(2);
        S.due("behind build anew", x.count(1), 4);
    }

    private static void stepsCounted() {
        LazyBuilder x = new LazyBuilder();
        S.due("at first", x.count(2), 0);
        x.force(8);
        x.show();
        S.due("behind REFUSED and SYNTAX alone", x.count(2), 0);
        Checks.show(x, "+1+23");
        S.due("behind show", x.count(2), 5);
        Checks.define(x, 'a', "+12");
        x.build(1);
        S.due("behind define and build", x.count(2), 5);
        x.force(0);
        S.due("behind force", x.count(2), 4);
        x.force(8);
        x.force(-1);
        S.due("behind REFUSED", x.count(2), 4);
        x.show();
        Checks.show(x, "12");
        S.due("behind SYNTAX", x.count(2), 4);
        x.force(7);
        S.due("behind a failure", x.count(2), 1);
        Checks.fail(x, 29);
        x.force(0);
        Checks.show(x, "+1+23");
        S.due("behind CLOSED", x.count(2), 2);
    }

    private static void failuresCounted() {
        LazyBuilder x = new LazyBuilder();
        S.due("at first", x.count(3), 0);
        for (int i = 1; i <= 29; i++) {
            Checks.fail(x, 1);
            S.due("FAILURES", x.count(3), i);
        }
        Checks.show(x, "1");
        S.due("behind DONE", x.count(3), 29);
        Checks.show(x, "TaTaTa1");
        S.due("behind three made good", x.count(3), 32);
        Checks.show(x, "1");
        S.due("behind CLOSED", x.count(3), 32);
    }

    private static void lengthCounted() {
        LazyBuilder x = new LazyBuilder();
        S.due("at first", x.count(4), 0);
        for (int i = 1; i <= 24; i++) {
            x.type('1');
            S.due("the length", x.count(4), i);
        }
        x.type('1');
        S.due("behind FULL", x.count(4), 24);
        x.define(0);
        S.due("behind define", x.count(4), 0);
    }

    private static void badPlaceTold() {
        LazyBuilder x = new LazyBuilder();
        S.due("at first", x.count(5), -1);
        Checks.define(x, 'a', "1");
        Checks.show(x, "1");
        S.due("behind good lines", x.count(5), -1);
        x.show();
        S.due("behind an empty line", x.count(5), 0);
        Checks.define(x, 'a', "D0(D0(D0(D0(D0(D0()))))");
        S.due("behind 23 characters", x.count(5), 23);
        Checks.show(x, "D0(D0(D0(D0(D0(D0(D0(D0(");
        S.due("behind 24 characters", x.count(5), 24);
        Checks.typeLine(x, "11");
        x.define(8);
        S.due("behind REFUSED", x.count(5), 24);
    }

    private static void boundCounted() {
        LazyBuilder x = new LazyBuilder();
        S.due("at first", x.count(6), 0);
        for (int i = 0; i < 8; i++) {
            Checks.define(x, (char) ('h' - i), "1");
            S.due("names bound", x.count(6), i + 1);
        }
        Checks.define(x, 'h', "2");
        S.due("behind define of a bound one", x.count(6), 8);
        x.undefine(0);
        S.due("behind undefine", x.count(6), 7);
        x.undefine(0);
        S.due("behind a refused undefine", x.count(6), 7);
    }

    private static void keptCounted() {
        LazyBuilder x = new LazyBuilder();
        S.due("at first", x.count(7), 0);
        for (int i = 0; i < 8; i++) {
            Checks.define(x, (char) ('a' + i), "0");
        }
        for (int i = 0; i < 8; i++) {
            S.due("kept", x.count(7), i);
            x.force(i);
        }
        S.due("all kept", x.count(7), 8);
        Checks.show(x, "1");
        S.due("what is SHOWN isn't counted", x.count(7), 8);
        x.undefine(0);
        S.due("behind undefine", x.count(7), 0);
    }

    private static void wrongCounts() {
        for (int what : new int[] {Integer.MIN_VALUE, -1, 8, 9, Integer.MAX_VALUE}) {
            S.due("count(" + what + ")", new LazyBuilder().count(what), REFUSED);
        }
    }
}
