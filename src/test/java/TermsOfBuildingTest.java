/** Terms: the sentences on BUILDING, KINDS and ROOTS. */
final class TermsOfBuildingTest {
    private static final Sentences S = new Sentences();
    private static final int BROKEN = LazyBuilder.BROKEN;

    public static void main(String[] args) {
        S.under("Terms");
        S.says("It's BUILT, with a RESULT (a NUMBER), or not.", TermsOfBuildingTest::builtOrNot);
        S.says("BUILDING a PLAN: it is BUILT: nothing.", TermsOfBuildingTest::builtAlready);
        S.says("Else its INPUTS that are PLANS are built, in order", TermsOfBuildingTest::inputsInOrder);
        S.says("from its PARTS, the INPUTS in order with the RESULT for a PLAN",
                TermsOfBuildingTest::parts);
        kinds();
        S.says("It's BUILT then, and a BUILD is counted.", TermsOfBuildingTest::buildsAreCounted);
        S.says("A failure leaves it as it was, those built before it stay BUILT.",
                TermsOfBuildingTest::failureLeavesIt);
        S.says("KINDS of builders are all 0 at first.", TermsOfBuildingTest::kindsAtFirst);
        S.says("ROOTS: a PLAN is one or not.", TermsOfBuildingTest::roots);
        S.end();
    }

    private static void kinds() {
        S.says("0 their sum", TermsOfBuildingTest::sums);
        S.says("1 their product", TermsOfBuildingTest::products);
        S.says("2 the greatest (0 without)", TermsOfBuildingTest::greatest);
        S.says("3 how many they are, if the greatest is below 100, else BROKEN",
                TermsOfBuildingTest::howMany);
        S.says("4: BROKEN.", TermsOfBuildingTest::alwaysBroken);
        S.says("Wrapping.", TermsOfBuildingTest::wrapping);
    }

    /** Builder 1 has the KIND; d stands for 99, e for the least NUMBER. */
    private static LazyBuilder withKind(int kind) {
        LazyBuilder x = new LazyBuilder();
        x.builder(1, kind);
        Checks.define(x, 'd', "+9+9*99");
        Checks.define(x, 'f', "****88888");
        Checks.define(x, 'e', "**ff2");
        return x;
    }

    private static void results(int kind, String text, long want) {
        S.due(text + " by kind " + kind, Checks.shown(withKind(kind), text), want);
    }

    private static void is(LazyBuilder x, int plan, int built, int result) {
        S.due("plan " + plan + " is BUILT", x.plan(plan, 2), built);
        S.due("the RESULT of plan " + plan, x.plan(plan, 3), result);
    }

    private static void builtOrNot() {
        LazyBuilder x = new LazyBuilder();
        Checks.show(x, "D1(7)");
        is(x, 1, 0, 0);
        x.build(1);
        is(x, 1, 1, 7);
        x.collect();
        is(x, 1, 0, 0);
        Checks.show(x, "D1()");
        x.build(2);
        is(x, 2, 1, 0);
    }

    private static void builtAlready() {
        LazyBuilder x = new LazyBuilder();
        Checks.show(x, "D1(4D2(5))");
        x.build(2);
        S.due("the builds", x.count(1), 2);
        x.builder(1, 4);
        x.builder(2, 4);
        S.due("build again", x.build(2), LazyBuilder.DONE);
        S.due("the builds stay", x.count(1), 2);
        is(x, 2, 1, 9);
        x.root(1, true);
        S.due("collect leaves the INPUT", x.collect(), 1);
        x.builder(1, 0);
        S.due("build with an INPUT that is BUILT", x.build(2), LazyBuilder.DONE);
        S.due("the INPUT isn't built again", x.count(1), 3);
        is(x, 2, 1, 9);
    }

    private static void inputsInOrder() {
        LazyBuilder x = new LazyBuilder();
        x.builder(4, 4);
        Checks.show(x, "D1(D2()7D4()D3())");
        S.due("build(4)", x.build(4), BROKEN);
        is(x, 1, 1, 0);
        is(x, 2, 0, 0);
        is(x, 3, 0, 0);
        is(x, 4, 0, 0);
        LazyBuilder y = new LazyBuilder();
        y.builder(4, 4);
        Checks.show(y, "D1(D4()D2())");
        S.due("build(3)", y.build(3), BROKEN);
        is(y, 2, 0, 0);
        Checks.show(y, "D5(D6(D7(3)))");
        S.due("build(6)", y.build(6), LazyBuilder.DONE);
        is(y, 4, 1, 3);
        is(y, 5, 1, 3);
    }

    private static void parts() {
        results(0, "OD1(2D2(34)D2(5))", 14);
        results(1, "OD1(2D2(34)D2(5))", 70);
        results(2, "OD1(2D2(34)D2(5))", 7);
        results(3, "OD1(2D2(34)D2(5))", 3);
        results(0, "OD1(D2(5)D2(5))", 10);
        results(1, "OD1(D1(23)D1(23))", 36);
        results(3, "OD1(D1(23)D1(23)9)", 3);
    }

    private static void sums() {
        results(0, "OD1()", 0);
        results(0, "OD1(0)", 0);
        results(0, "OD1(-07)", -7);
        results(0, "OD1(1234)", 10);
        results(0, "OD1(-077)", 0);
    }

    private static void products() {
        results(1, "OD1()", 1);
        results(1, "OD1(0)", 0);
        results(1, "OD1(7)", 7);
        results(1, "OD1(2345)", 120);
        results(1, "OD1(-0123)", -6);
        results(1, "OD1(2305)", 0);
    }

    private static void greatest() {
        results(2, "OD1()", 0);
        results(2, "OD1(0)", 0);
        results(2, "OD1(-07)", -7);
        results(2, "OD1(-07-03)", -3);
        results(2, "OD1(-03-07)", -3);
        results(2, "OD1(9123)", 9);
        results(2, "OD1(1293)", 9);
        results(2, "OD1(1239)", 9);
        results(2, "OD1(e)", Integer.MIN_VALUE);
        results(2, "OD1(-e1e)", Integer.MAX_VALUE);
    }

    private static void howMany() {
        results(3, "OD1()", 0);
        results(3, "OD1(0)", 1);
        results(3, "OD1(9999)", 4);
        results(3, "OD1(d)", 1);
        results(3, "OD1(+d1)", BROKEN);
        results(3, "OD1(1+d1)", BROKEN);
        results(3, "OD1(+d11)", BROKEN);
        results(3, "OD1(123d)", 4);
        results(3, "OD1(123+d1)", BROKEN);
        results(3, "OD1(ddd)", 3);
        results(3, "OD1(e)", 1);
        results(3, "OD1(-e1)", BROKEN);
        results(3, "OD1(D2(d))", 1);
        results(3, "OD1(D2(d1))", BROKEN);
    }

    private static void alwaysBroken() {
        results(4, "OD1()", BROKEN);
        results(4, "OD1(1)", BROKEN);
        results(4, "OD1(D2()1)", BROKEN);
        results(4, "OD2(D1())", BROKEN);
        LazyBuilder x = withKind(4);
        Checks.show(x, "OD1(D2(6))");
        is(x, 1, 1, 6);
        is(x, 2, 0, 0);
    }

    private static void wrapping() {
        results(0, "OD1(ee)", 0);
        results(0, "OD1(-e11)", Integer.MIN_VALUE);
        results(0, "OD1(e-01)", Integer.MAX_VALUE);
        results(1, "OD1(e-01)", Integer.MIN_VALUE);
        results(1, "OD1(e2)", 0);
        results(1, "OD1(ff2)", Integer.MIN_VALUE);
        results(1, "OD1(-e12)", -2);
        results(2, "OD1(e0)", 0);
    }

    private static void buildsAreCounted() {
        LazyBuilder x = new LazyBuilder();
        Checks.show(x, "D1(D2()D2()D3())");
        S.due("the builds at first", x.count(1), 0);
        S.due("build(1)", x.build(1), LazyBuilder.DONE);
        S.due("one", x.count(1), 1);
        S.due("build(3)", x.build(3), LazyBuilder.DONE);
        S.due("each once", x.count(1), 3);
        is(x, 3, 1, 0);
        x.builder(4, 4);
        Checks.show(x, "OD4()");
        S.due("a BROKEN one is not counted", x.count(1), 3);
        x.collect();
        Checks.show(x, "OD2()");
        S.due("one that is built anew is", x.count(1), 4);
    }

    private static void failureLeavesIt() {
        LazyBuilder x = new LazyBuilder();
        x.builder(3, 3);
        Checks.define(x, 'b', "+9+9*99");
        Checks.define(x, 'c', "D3(D1(D2(8))+b1)");
        S.due("show of Oc", Checks.show(x, "Oc"), BROKEN);
        is(x, 1, 1, 8);
        is(x, 2, 1, 8);
        is(x, 3, 0, 0);
        S.due("the builds before it stay counted", x.count(1), 2);
        x.root(3, true);
        S.due("build(3)", x.build(3), BROKEN);
        S.due("it is a ROOT as it was", x.plan(3, 4), 1);
        S.due("its builder", x.plan(3, 0), 3);
        S.due("its INPUT", x.input(3, 1), 100);
        x.builder(3, 0);
        S.due("build(3) by kind 0", x.build(3), LazyBuilder.DONE);
        is(x, 3, 1, 108);
        S.due("only it was still to build", x.count(1), 3);
    }

    private static void kindsAtFirst() {
        for (int b = 0; b < 10; b++) {
            S.due("builder " + b, Checks.shown(new LazyBuilder(), "OD" + b + "(234)"), 9);
        }
    }

    private static void roots() {
        LazyBuilder x = new LazyBuilder();
        Checks.show(x, "D1(D2())");
        S.due("plan 2 at first", x.plan(2, 4), 0);
        x.root(2, true);
        S.due("plan 2", x.plan(2, 4), 1);
        S.due("its INPUT is none by that", x.plan(1, 4), 0);
        x.root(2, false);
        S.due("plan 2 no more", x.plan(2, 4), 0);
    }
}
