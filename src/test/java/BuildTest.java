/** Promises 9, 10, 13 and 14: builder, build, input and plan. */
final class BuildTest {
    private static final Checks CHECKS = new Checks();
    private static final long PLAN = LazyBuilder.PLAN;

    public static void main(String[] args) {
        kinds();
        kindsWithNegatives();
        kindsWithPlans();
        wrapping();
        howMany();
        setting();
        wrongSettings();
        eachOnce();
        orderOfBuilding();
        failureLeaves();
        deepestBuilding();
        wrongPlans();
        asking();
        CHECKS.end();
    }

    private static LazyBuilder withKind(int kind) {
        LazyBuilder x = new LazyBuilder();
        CHECKS.due("builder(1, " + kind + ")", x.builder(1, kind), LazyBuilder.DONE);
        return x;
    }

    private static void results(String text, long... want) {
        for (int kind = 0; kind < want.length; kind++) {
            CHECKS.due(text + " by kind " + kind, Checks.shown(withKind(kind), text), want[kind]);
        }
    }

    private static void kinds() {
        results("OD1()", 0, 1, 0, 0, LazyBuilder.BROKEN);
        results("OD1(7)", 7, 7, 7, 1, LazyBuilder.BROKEN);
        results("OD1(2345)", 14, 120, 5, 4, LazyBuilder.BROKEN);
        results("OD1(523)", 10, 30, 5, 3, LazyBuilder.BROKEN);
        results("OD1(0)", 0, 0, 0, 1, LazyBuilder.BROKEN);
    }

    private static void kindsWithNegatives() {
        results("OD1(-03-02)", -5, 6, -2, 2, LazyBuilder.BROKEN);
        results("OD1(-03)", -3, -3, -3, 1, LazyBuilder.BROKEN);
    }

    private static void kindsWithPlans() {
        results("OD1(2D2(34)3)", 12, 42, 7, 3, LazyBuilder.BROKEN);
        results("OD1(D2())", 0, 0, 0, 1, LazyBuilder.BROKEN);
        results("OD1(D1(23))", 5, 6, 3, 1, LazyBuilder.BROKEN);
        results("OD1(D1(2)D1(2))", 4, 4, 2, 2, LazyBuilder.BROKEN);
    }

    private static void wrapping() {
        LazyBuilder x = new LazyBuilder();
        x.builder(1, 1);
        Checks.define(x, 'a', "***8888");
        Checks.define(x, 'b', "OD1(aa4*88)");
        CHECKS.due("a product that wraps", Checks.shown(x, "b"), 0);
        Checks.define(x, 'b', "OD1(aa8)");
        CHECKS.due("a product just within", Checks.shown(x, "b"), 1 << 27);
        Checks.define(x, 'b', "OD1(aa8*28)");
        CHECKS.due("a product just beyond", Checks.shown(x, "b"), Integer.MIN_VALUE);
        CHECKS.due("a sum just beyond", Checks.shown(x, "OD0(bb)"), 0);
        CHECKS.due("a sum below", Checks.shown(x, "OD0(b-01)"), Integer.MAX_VALUE);
        x.builder(2, 2);
        CHECKS.due("the greatest of the least", Checks.shown(x, "OD2(b)"), Integer.MIN_VALUE);
    }

    private static void howMany() {
        LazyBuilder x = withKind(3);
        Checks.define(x, 'a', "+9+9*99");
        CHECKS.due("a is 99", Checks.shown(x, "a"), 99);
        CHECKS.due("with 99", Checks.shown(x, "OD1(1a)"), 2);
        CHECKS.due("with 100", Checks.shown(x, "OD1(+1a)"), LazyBuilder.BROKEN);
        CHECKS.due("with 100 before 1", Checks.shown(x, "OD1(+1a1)"), LazyBuilder.BROKEN);
        CHECKS.due("with a RESULT of 100", Checks.shown(x, "OD1(1D0(1a))"), LazyBuilder.BROKEN);
        CHECKS.due("with a RESULT of 99", Checks.shown(x, "OD1(1D0(a))"), 2);
        CHECKS.due("with two that make 100", Checks.shown(x, "OD1(a11)"), 3);
    }

    private static void setting() {
        LazyBuilder x = new LazyBuilder();
        CHECKS.due("kind 0 at first", Checks.shown(x, "OD1(34)"), 7);
        x.builder(1, 1);
        CHECKS.due("what is built stays", Checks.shown(x, "OD1(34)"), 7);
        CHECKS.due("builder 1 is set", Checks.shown(x, "OD1(35)"), 15);
        CHECKS.due("builder 0 is not", Checks.shown(x, "OD0(35)"), 8);
        CHECKS.due("builder 2 is not", Checks.shown(x, "OD2(35)"), 8);
        x.builder(1, 4);
        CHECKS.due("it stays with kind 4 too", x.build(1), LazyBuilder.DONE);
        x.collect();
        CHECKS.due("it is built anew by the new kind", x.build(1), LazyBuilder.BROKEN);
        for (int b = 0; b < 10; b++) {
            CHECKS.due("builder(" + b + ", 2)", x.builder(b, 2), LazyBuilder.DONE);
            CHECKS.due("builder " + b, Checks.shown(x, "OD" + b + "(495)"), 9);
        }
    }

    private static void wrongSettings() {
        int[][] wrong = {{-1, 0}, {10, 0}, {0, -1}, {0, 5}, {10, 5}, {Integer.MIN_VALUE, 1},
            {Integer.MAX_VALUE, 1}, {1, Integer.MIN_VALUE}, {1, Integer.MAX_VALUE}};
        LazyBuilder x = new LazyBuilder();
        x.builder(0, 1);
        for (int[] pair : wrong) {
            String call = "builder(" + pair[0] + ", " + pair[1] + ")";
            CHECKS.due(call, x.builder(pair[0], pair[1]), LazyBuilder.REFUSED);
        }
        CHECKS.due("the kind stays", Checks.shown(x, "OD0(345)"), 60);
        CHECKS.due("failures", x.count(3), 0);
    }

    private static void eachOnce() {
        LazyBuilder x = new LazyBuilder();
        Checks.define(x, 'a', "D1(23)");
        CHECKS.due("both are one", Checks.shown(x, "+OaOD1(23)"), 10);
        CHECKS.due("one build", x.count(1), 1);
        CHECKS.due("build(1)", x.build(1), LazyBuilder.DONE);
        CHECKS.due("still one build", x.count(1), 1);
        Checks.show(x, "D2(aaa)");
        CHECKS.due("build(2)", x.build(2), LazyBuilder.DONE);
        CHECKS.due("two builds", x.count(1), 2);
        CHECKS.due("its result", x.plan(2, 3), 15);
        CHECKS.due("build is no force", x.count(2), 4);
    }

    private static void orderOfBuilding() {
        LazyBuilder x = new LazyBuilder();
        x.builder(4, 4);
        Checks.show(x, "D1(D2()D4()D3())");
        CHECKS.due("build(4)", x.build(4), LazyBuilder.BROKEN);
        CHECKS.due("the one before is built", x.plan(1, 2), 1);
        CHECKS.due("the broken one is not", x.plan(2, 2), 0);
        CHECKS.due("the one behind is not", x.plan(3, 2), 0);
        CHECKS.due("the whole is not", x.plan(4, 2), 0);
        CHECKS.due("one build", x.count(1), 1);
        CHECKS.due("one failure", x.count(3), 1);
        Checks.show(x, "D4(D5())");
        CHECKS.due("build(6)", x.build(6), LazyBuilder.BROKEN);
        CHECKS.due("INPUTS of a broken one are built", x.plan(5, 2), 1);
        CHECKS.due("two builds", x.count(1), 2);
        x.builder(4, 0);
        CHECKS.due("build(4) mended", x.build(4), LazyBuilder.DONE);
        CHECKS.due("three more", x.count(1), 5);
    }

    private static void failureLeaves() {
        LazyBuilder x = new LazyBuilder();
        x.builder(4, 4);
        CHECKS.due("T round a broken one", Checks.shown(x, "TOD1(D2(3)D4())9"), 9);
        CHECKS.due("plans stay", x.count(0), 3);
        CHECKS.due("builds stay", x.count(1), 1);
        CHECKS.due("the first is built", x.plan(1, 3), 3);
        CHECKS.due("the last is not", x.plan(3, 2), 0);
        CHECKS.due("its result is 0", x.plan(3, 3), 0);
        CHECKS.due("the failure is counted", x.count(3), 1);
    }

    private static void deepestBuilding() {
        LazyBuilder x = new LazyBuilder();
        for (char name = 'a'; name <= 'f'; name++) {
            char inner = name == 'f' ? '9' : (char) (name + 1);
            Checks.define(x, name, "D0(D0(D0(D0(D0(" + inner + ")))))");
        }
        CHECKS.due("force of 30 plans in one another", x.force(0), LazyBuilder.DONE);
        CHECKS.due("the outermost", x.value(0), PLAN + 30);
        CHECKS.due("build(30)", x.build(30), LazyBuilder.DONE);
        CHECKS.due("30 builds", x.count(1), 30);
        CHECKS.due("the result of the outermost", x.plan(30, 3), 9);
    }

    private static void wrongPlans() {
        LazyBuilder x = new LazyBuilder();
        Checks.show(x, "D1(7)");
        x.build(1);
        int[] wrong = {0, -1, 2, 30, 31, Integer.MIN_VALUE, Integer.MAX_VALUE};
        for (int plan : wrong) {
            CHECKS.due("build(" + plan + ")", x.build(plan), LazyBuilder.REFUSED);
            CHECKS.due("input(" + plan + ", 0)", x.input(plan, 0), LazyBuilder.NONE);
            for (int what = 0; what < 5; what++) {
                CHECKS.due("plan(" + plan + ", " + what + ")", x.plan(plan, what), LazyBuilder.REFUSED);
            }
        }
        int[] others = {-1, 5, Integer.MIN_VALUE, Integer.MAX_VALUE};
        for (int other : others) {
            CHECKS.due("plan(1, " + other + ")", x.plan(1, other), LazyBuilder.REFUSED);
            CHECKS.due("input(1, " + other + ")", x.input(1, other), LazyBuilder.NONE);
        }
        CHECKS.due("input(1, 1)", x.input(1, 1), LazyBuilder.NONE);
        CHECKS.due("failures", x.count(3), 0);
    }

    private static void asking() {
        LazyBuilder x = new LazyBuilder();
        Checks.show(x, "D7(-5613D6())");
        CHECKS.due("two plans", x.count(0), 2);
        int[] first = {6, 0, 0, 0, 0};
        int[] second = {7, 4, 0, 0, 0};
        asks(x, 1, first);
        asks(x, 2, second);
        long[] inputs = {-1, 1, 3, PLAN + 1};
        for (int i = 0; i < 4; i++) {
            CHECKS.due("input(2, " + i + ")", x.input(2, i), inputs[i]);
        }
        CHECKS.due("input(2, 4)", x.input(2, 4), LazyBuilder.NONE);
        CHECKS.due("input(1, 0)", x.input(1, 0), LazyBuilder.NONE);
        x.build(2);
        x.root(1, true);
        asks(x, 1, new int[] {6, 0, 1, 0, 1});
        asks(x, 2, new int[] {7, 4, 1, 3, 0});
        Checks.show(x, "D1(-01)");
        x.build(3);
        CHECKS.due("a RESULT of -1", x.plan(3, 3), -1);
    }

    private static void asks(LazyBuilder x, int plan, int[] want) {
        for (int what = 0; what < want.length; what++) {
            CHECKS.due("plan(" + plan + ", " + what + ")", x.plan(plan, what), want[what]);
        }
    }
}
