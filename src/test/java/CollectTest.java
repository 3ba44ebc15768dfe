/** Promises 11 and 12: root and collect. */
final class CollectTest {
    private static final Checks CHECKS = new Checks();

    public static void main(String[] args) {
        rooting();
        wrongRoots();
        collectsAll();
        keepsInputsAtAnyDistance();
        rootsThatAreNotBuilt();
        sharedInputs();
        valuesStay();
        CHECKS.end();
    }

    private static void built(LazyBuilder x, String want) {
        StringBuilder got = new StringBuilder();
        for (int plan = 1; plan <= x.count(0); plan++) {
            got.append(x.plan(plan, 2));
            if (x.plan(plan, 2) == 0) {
                CHECKS.due("the RESULT of a PLAN that is not BUILT", x.plan(plan, 3), 0);
            }
        }
        CHECKS.due("built are " + got + ", due is " + want, got.toString().equals(want));
    }

    private static void rooting() {
        LazyBuilder x = new LazyBuilder();
        Checks.show(x, "D1(2D2(3))");
        CHECKS.due("root(2, true)", x.root(2, true), LazyBuilder.DONE);
        CHECKS.due("plan(2, 4)", x.plan(2, 4), 1);
        CHECKS.due("plan(1, 4)", x.plan(1, 4), 0);
        CHECKS.due("root(2, true) again", x.root(2, true), LazyBuilder.DONE);
        CHECKS.due("plan(2, 4) still", x.plan(2, 4), 1);
        CHECKS.due("root(2, false)", x.root(2, false), LazyBuilder.DONE);
        CHECKS.due("plan(2, 4) no more", x.plan(2, 4), 0);
        CHECKS.due("root(2, false) again", x.root(2, false), LazyBuilder.DONE);
        CHECKS.due("nothing is built by root", x.count(1), 0);
    }

    private static void wrongRoots() {
        LazyBuilder x = new LazyBuilder();
        Checks.show(x, "D1()");
        int[] wrong = {0, -1, 2, 31, Integer.MIN_VALUE, Integer.MAX_VALUE};
        for (int plan : wrong) {
            CHECKS.due("root(" + plan + ", true)", x.root(plan, true), LazyBuilder.REFUSED);
            CHECKS.due("root(" + plan + ", false)", x.root(plan, false), LazyBuilder.REFUSED);
        }
        CHECKS.due("plan(1, 4)", x.plan(1, 4), 0);
        CHECKS.due("failures", x.count(3), 0);
    }

    private static void collectsAll() {
        LazyBuilder x = new LazyBuilder();
        Checks.show(x, "OD1(2D2(3)D3())");
        Checks.show(x, "D4()");
        built(x, "1110");
        CHECKS.due("collect without roots", x.collect(), 3);
        built(x, "0000");
        CHECKS.due("collect again", x.collect(), 0);
        CHECKS.due("plans stay", x.count(0), 4);
        CHECKS.due("builds stay counted", x.count(1), 3);
        CHECKS.due("build(3)", x.build(3), LazyBuilder.DONE);
        CHECKS.due("all three again", x.count(1), 6);
        CHECKS.due("the result again", x.plan(3, 3), 5);
    }

    private static void keepsInputsAtAnyDistance() {
        LazyBuilder x = new LazyBuilder();
        Checks.show(x, "OD1(D2(D3(D4(5))))");
        Checks.show(x, "OD5(D6(7))");
        built(x, "111111");
        x.root(4, true);
        CHECKS.due("collect with the outermost", x.collect(), 2);
        built(x, "111100");
        x.root(4, false);
        x.root(2, true);
        CHECKS.due("collect with one in the middle", x.collect(), 2);
        built(x, "110000");
        x.root(2, false);
        CHECKS.due("collect with none", x.collect(), 2);
        built(x, "000000");
    }

    private static void rootsThatAreNotBuilt() {
        LazyBuilder x = new LazyBuilder();
        Checks.show(x, "D1(D2(D3()))");
        x.build(1);
        x.root(3, true);
        CHECKS.due("a root that is not built keeps its inputs", x.collect(), 0);
        built(x, "100");
        Checks.show(x, "D4(D3())");
        x.build(4);
        CHECKS.due("what only uses a kept one is not kept", x.collect(), 1);
        built(x, "1000");
    }

    private static void sharedInputs() {
        LazyBuilder x = new LazyBuilder();
        Checks.show(x, "OD1(D9()D9())");
        Checks.show(x, "OD2(D9()D8())");
        built(x, "1111");
        x.root(2, true);
        CHECKS.due("collect with the first", x.collect(), 2);
        built(x, "1100");
        x.build(4);
        x.root(4, true);
        x.root(2, false);
        CHECKS.due("collect with the second", x.collect(), 1);
        built(x, "1011");
    }

    private static void valuesStay() {
        LazyBuilder x = new LazyBuilder();
        Checks.define(x, 'a', "D1(2)");
        Checks.define(x, 'b', "Oa");
        x.force(1);
        CHECKS.due("collect", x.collect(), 1);
        CHECKS.due("value(0) stays", x.value(0), LazyBuilder.PLAN + 1);
        CHECKS.due("value(1) stays", x.value(1), 2);
        CHECKS.due("kept", x.count(7), 2);
        CHECKS.due("show of b", Checks.shown(x, "b"), 2);
        CHECKS.due("not built for a kept value", x.plan(1, 2), 0);
        CHECKS.due("show of Oa", Checks.shown(x, "Oa"), 2);
        CHECKS.due("built for O", x.count(1), 2);
    }
}
