import java.util.function.ToLongFunction;

/** Terms: the sentences on FAILURES, CLOSED, calls below 0 and the constants. */
final class TermsOfFailuresTest {
    private static final Sentences S = new Sentences();
    private static final int REFUSED = LazyBuilder.REFUSED;
    private static final int CLOSED = LazyBuilder.CLOSED;
    private static final int[] FAR = {Integer.MIN_VALUE, -1, 8, 31, Integer.MAX_VALUE};

    public static void main(String[] args) {
        S.under("Terms");
        S.says("every UNBOUND, TYPE, ABORT and BROKEN that T makes good", TermsOfFailuresTest::madeGood);
        S.says("every one of any sort that a call answers", TermsOfFailuresTest::answered);
        S.says("(CLOSED apart).", TermsOfFailuresTest::closedIsNotCounted);
        S.says("When 30 are counted, force, show and build answer CLOSED and do nothing.",
                TermsOfFailuresTest::closedAt30);
        S.says("A call whose answer is below 0 changes nothing but what is said",
                TermsOfFailuresTest::belowZero);
        S.says("(STEPS, VALUES kept, PLANS and BUILDS before the failure stay).",
                TermsOfFailuresTest::beforeTheFailure);
        S.says("`NONE = -1000000000000L`: The answer of value and input where there is none.",
                TermsOfFailuresTest::none);
        S.says("`PLAN = 1000000000000L`: PLAN n as a VALUE is told as this plus n.",
                TermsOfFailuresTest::plan);
        S.end();
    }

    private static void counts(LazyBuilder x, String text, long want, int failures) {
        S.due("show of " + text, Checks.shown(x, text), want);
        S.due("FAILURES behind " + text, x.count(3), failures);
    }

    private static void madeGood() {
        LazyBuilder x = new LazyBuilder();
        x.builder(4, 4);
        counts(x, "T12", 1, 0);
        counts(x, "T1!2", 1, 0);
        counts(x, "Ta5", 5, 1);
        counts(x, "TO15", 5, 2);
        counts(x, "T!15", 5, 3);
        counts(x, "TOD4()5", 5, 4);
        counts(x, "TTab5", 5, 6);
        counts(x, "TaTb5", 5, 8);
        Checks.define(x, 'c', "Ta7");
        counts(x, "+cc", 14, 9);
    }

    private static void answered() {
        LazyBuilder x = new LazyBuilder();
        x.builder(4, 4);
        Checks.define(x, 'b', "b");
        counts(x, "a", LazyBuilder.UNBOUND, 1);
        counts(x, "O1", LazyBuilder.TYPE, 2);
        counts(x, "!1", LazyBuilder.ABORT, 3);
        counts(x, "OD4()", LazyBuilder.BROKEN, 4);
        counts(x, "b", LazyBuilder.LOOP, 5);
        counts(x, "Tb1", LazyBuilder.LOOP, 6);
        counts(x, "Tac", LazyBuilder.UNBOUND, 8);
        S.due("force", x.force(0), LazyBuilder.UNBOUND);
        S.due("FAILURES behind force", x.count(3), 9);
        S.due("build", x.build(1), LazyBuilder.BROKEN);
        S.due("FAILURES behind build", x.count(3), 10);
        crampedAndLong();
        noFailures();
    }

    private static void crampedAndLong() {
        LazyBuilder x = new LazyBuilder();
        for (int i = 0; i < 30; i++) {
            Checks.show(x, "D" + i / 10 + "(" + i % 10 + ")");
        }
        counts(x, "D9()", LazyBuilder.CRAMPED, 1);
        counts(x, "TD9()1", LazyBuilder.CRAMPED, 2);
        Checks.define(x, 'b', "!++++111++111+++111++111");
        Checks.define(x, 'a', "TbTbTbTbTbTbTbb");
        counts(x, "Ta1", LazyBuilder.LONG, 2 + 7 + 1);
    }

    /** REFUSED, FULL and SYNTAX are no failures of WORKING OUT or BUILDING. */
    private static void noFailures() {
        LazyBuilder x = new LazyBuilder();
        for (int far : FAR) {
            x.type(far);
            x.define(far);
            x.undefine(far);
            x.force(far);
            x.builder(far, far);
            x.build(far);
            x.root(far, true);
            x.plan(far, far);
            x.count(far);
        }
        for (int i = 0; i < 26; i++) {
            x.type('!');
        }
        x.define(0);
        x.show();
        S.due("FAILURES without any", x.count(3), 0);
    }

    private static void closedIsNotCounted() {
        LazyBuilder x = new LazyBuilder();
        Checks.show(x, "D0()");
        Checks.fail(x, 30);
        for (int i = 0; i < 3; i++) {
            S.due("force", x.force(0), CLOSED);
            S.due("build", x.build(1), CLOSED);
            S.due("show", Checks.show(x, "1"), CLOSED);
            S.due("FAILURES", x.count(3), 30);
        }
    }

    private static LazyBuilder failed(int failures) {
        LazyBuilder x = new LazyBuilder();
        x.builder(4, 4);
        Checks.define(x, 'a', "+12");
        Checks.define(x, 'b', "D4()");
        Checks.show(x, "D1(7)");
        Checks.fail(x, failures);
        S.due("FAILURES", x.count(3), failures);
        return x;
    }

    private static void closedAt30() {
        LazyBuilder open = failed(29);
        S.due("force at 29", open.force(0), LazyBuilder.DONE);
        S.due("show at 29", Checks.shown(open, "+a1"), 4);
        S.due("build at 29", open.build(1), LazyBuilder.DONE);
        S.due("the 30th", Checks.show(open, "Ob"), LazyBuilder.BROKEN);
        S.due("force at 30", open.force(0), CLOSED);
        S.due("show at 30", Checks.show(open, "1"), CLOSED);
        S.due("build at 30", open.build(1), CLOSED);
        closedDoNothing(failed(30));
        beyond30();
    }

    private static void closedDoNothing(LazyBuilder x) {
        String before = State.of(x);
        S.due("force", x.force(0), CLOSED);
        S.due("force of an unbound name", x.force(7), CLOSED);
        S.due("build", x.build(1), CLOSED);
        S.same("behind force and build", State.of(x), before);
        S.due("show", Checks.show(x, "D9(D8())"), CLOSED);
        S.same("behind show", State.of(x), before);
        S.due("define goes on", Checks.define(x, 'c', "+12"), 2);
        S.due("undefine goes on", x.undefine(2), LazyBuilder.DONE);
        S.due("builder goes on", x.builder(1, 1), LazyBuilder.DONE);
        S.due("root goes on", x.root(1, true), LazyBuilder.DONE);
        S.due("collect goes on", x.collect(), 0);
    }

    private static void beyond30() {
        LazyBuilder x = failed(28);
        S.due("a call that began before goes on", Checks.shown(x, "TcTcTcTc7"), 7);
        S.due("FAILURES", x.count(3), 32);
        S.due("closed above 30 too", x.force(0), CLOSED);
        S.due("a wrong name", x.force(8), REFUSED);
        S.due("a wrong plan", x.build(2), REFUSED);
    }

    /** Something of everything, but for the line. */
    private static LazyBuilder withEmptyLine() {
        LazyBuilder x = new LazyBuilder();
        x.builder(1, 1);
        Checks.define(x, 'a', "+34");
        Checks.define(x, 'b', "D1(a2)");
        Checks.define(x, 'c', "Ob");
        Checks.define(x, 'd', "+1");
        x.force(2);
        Checks.show(x, "OD2(b)");
        Checks.show(x, "T!1h");
        x.root(1, true);
        return x;
    }

    private static LazyBuilder used() {
        LazyBuilder x = withEmptyLine();
        Checks.typeLine(x, "+1c");
        return x;
    }

    private static void leaves(String call, long want, ToLongFunction<LazyBuilder> refused) {
        LazyBuilder x = used();
        LazyBuilder y = used();
        S.due(call, refused.applyAsLong(x), want);
        S.same("what is told behind " + call, State.of(x), State.of(y));
        S.same("what comes of it behind " + call, State.byUse(x), State.byUse(y));
    }

    private static void belowZero() {
        leaves("type('i')", REFUSED, x -> x.type('i'));
        leaves("types(-1)", REFUSED, x -> x.types(-1L));
        leaves("undefine(7), not bound", REFUSED, x -> x.undefine(7));
        for (int far : FAR) {
            leaves("type(" + far + ")", REFUSED, x -> x.type(far));
            leaves("define(" + far + ")", REFUSED, x -> x.define(far));
            leaves("undefine(" + far + ")", REFUSED, x -> x.undefine(far));
            leaves("force(" + far + ")", REFUSED, x -> x.force(far));
            int builder = far == 8 ? 10 : far;
            leaves("builder(" + builder + ", 2)", REFUSED, x -> x.builder(builder, 2));
            leaves("builder(1, " + far + ")", REFUSED, x -> x.builder(1, far));
            leaves("build(" + far + ")", REFUSED, x -> x.build(far));
            leaves("root(" + far + ", true)", REFUSED, x -> x.root(far, true));
            leaves("root(" + far + ", false)", REFUSED, x -> x.root(far, false));
            leaves("plan(" + far + ", 0)", REFUSED, x -> x.plan(far, 0));
            leaves("plan(1, " + far + ")", REFUSED, x -> x.plan(1, far));
            leaves("count(" + far + ")", REFUSED, x -> x.count(far));
            leaves("input(" + far + ", 0)", LazyBuilder.NONE, x -> x.input(far, 0));
            leaves("input(1, " + far + ")", LazyBuilder.NONE, x -> x.input(1, far));
        }
        fullLineStays();
        syntaxChangesTheLineAlone();
        failuresLeaveTheRest();
    }

    private static void fullLineStays() {
        LazyBuilder x = new LazyBuilder();
        Checks.typeLine(x, "OD0(D0(1234)D0(1234)+12)");
        S.due("type of the 25th", x.type('9'), LazyBuilder.FULL);
        S.due("type of a strange one", x.type('x'), REFUSED);
        S.due("types of the 25th", x.types('9'), LazyBuilder.FULL);
        S.due("the length", x.count(4), 24);
        S.due("show", x.show(), LazyBuilder.DONE);
        S.due("what was shown", x.value(8), 23);
    }

    private static void syntaxChangesTheLineAlone() {
        LazyBuilder x = used();
        String before = State.withoutLine(x);
        x.type('(');
        S.due("define", x.define(0), LazyBuilder.SYNTAX);
        S.same("behind define", State.withoutLine(x), before);
        S.due("show", x.show(), LazyBuilder.SYNTAX);
        S.same("behind show", State.withoutLine(x), before);
        S.same("what comes of it", State.byUse(x), State.byUse(withEmptyLine()));
    }

    private static void failuresLeaveTheRest() {
        LazyBuilder x = used();
        String before = State.lasting(x);
        S.due("force", x.force(7), LazyBuilder.UNBOUND);
        S.due("the line behind force", x.count(4), 3);
        S.due("the bad place behind force", x.count(5), 2);
        S.same("behind force", State.lasting(x), before);
        x.show();
        before = State.lasting(x);
        S.due("show", Checks.show(x, "!c"), LazyBuilder.ABORT);
        S.due("the bad place behind show", x.count(5), 2);
        S.same("behind show", State.lasting(x), before);
        x.builder(2, 4);
        x.root(1, true);
        x.collect();
        before = State.lasting(x);
        int steps = x.count(2);
        S.due("build", x.build(2), LazyBuilder.BROKEN);
        S.same("behind build", State.lasting(x), before);
        S.due("the steps behind build", x.count(2), steps);
    }

    private static void beforeTheFailure() {
        LazyBuilder x = new LazyBuilder();
        Checks.define(x, 'a', "OD1(5)");
        Checks.define(x, 'b', "D0(aD2()!1D3())");
        S.due("force", x.force(1), LazyBuilder.ABORT);
        S.due("the STEPS", x.count(2), 9);
        S.due("the VALUE kept", x.value(0), 5);
        S.due("one that failed is not kept", x.value(1), LazyBuilder.NONE);
        S.due("the PLANS", x.count(0), 2);
        S.due("the BUILDS", x.count(1), 1);
        S.due("it is BUILT", x.plan(1, 2), 1);
        LazyBuilder y = new LazyBuilder();
        y.builder(4, 4);
        Checks.show(y, "D0(D1(3)D4())");
        S.due("build", y.build(3), LazyBuilder.BROKEN);
        S.due("the BUILDS before", y.count(1), 1);
        S.due("the RESULT before", y.plan(1, 3), 3);
    }

    private static void none() {
        LazyBuilder x = new LazyBuilder();
        S.due("NONE", LazyBuilder.NONE, -1000000000000L);
        S.due("value", x.value(0), -1000000000000L);
        S.due("value of what is shown", x.value(8), -1000000000000L);
        S.due("input", x.input(1, 0), -1000000000000L);
        Checks.show(x, "D0()");
        S.due("input of an empty list", x.input(1, 0), -1000000000000L);
    }

    private static void plan() {
        LazyBuilder x = new LazyBuilder();
        S.due("PLAN", LazyBuilder.PLAN, 1000000000000L);
        for (int i = 0; i < 30; i++) {
            Checks.define(x, 'a', "D" + i / 10 + "(" + i % 10 + ")");
            x.force(0);
            S.due("value of plan " + (i + 1), x.value(0), 1000000000001L + i);
        }
        Checks.show(x, "a");
        S.due("what is shown", x.value(8), 1000000000030L);
        LazyBuilder y = new LazyBuilder();
        Checks.show(y, "D0(D1())");
        S.due("an INPUT", y.input(2, 0), 1000000000001L);
    }
}
