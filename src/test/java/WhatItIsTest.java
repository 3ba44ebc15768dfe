/** What it is: the document's first sentence, part by part, and the 512 calls. */
final class WhatItIsTest {
    private static final Sentences S = new Sentences();

    public static void main(String[] args) {
        S.under("What it is");
        S.says("names stand for expressions that are worked out when they are wanted",
                WhatItIsTest::notBeforeTheyAreWanted);
        S.says("names stand for expressions", WhatItIsTest::forExpressionsNotForValues);
        S.says("what is to be built is written into a store where equal descriptions are one",
                WhatItIsTest::equalDescriptionsAreOne);
        S.says("it is built when its result is wanted", WhatItIsTest::notBeforeItsResultIsWanted);
        S.says("it is built when its result is wanted, each once.", WhatItIsTest::eachOnce);
        S.says("An object is used for at most 512 calls after it has been made",
                WhatItIsTest::the512thCall);
        S.says("what later calls answer is free.", WhatItIsTest::laterCallsDoNotThrow);
        S.end();
    }

    private static void notBeforeTheyAreWanted() {
        LazyBuilder x = new LazyBuilder();
        S.due("define of a name that would fail", Checks.define(x, 'a', "!D1()"), 2);
        Checks.define(x, 'b', "D2()");
        Checks.define(x, 'c', "?0ab");
        S.due("failures before anything is wanted", x.count(3), 0);
        S.due("plans before anything is wanted", x.count(0), 0);
        S.due("steps before anything is wanted", x.count(2), 0);
        S.due("force of c, which wants b and not a", x.force(2), LazyBuilder.DONE);
        S.due("plans, b's alone", x.count(0), 1);
        S.due("its builder", x.plan(1, 0), 2);
        S.due("names with a value, b and c", x.count(7), 2);
        S.due("value of a, which nothing wanted", x.value(0), LazyBuilder.NONE);
    }

    private static void forExpressionsNotForValues() {
        LazyBuilder x = new LazyBuilder();
        S.due("define of a by b, which isn't bound", Checks.define(x, 'a', "+b1"), 2);
        Checks.define(x, 'b', "4");
        S.due("a, with b bound to 4", Checks.shown(x, "a"), 5);
        Checks.define(x, 'b', "7");
        S.due("a, with b bound to 7", Checks.shown(x, "a"), 8);
        x.undefine(1);
        S.due("a, with b bound no more", Checks.shown(x, "a"), LazyBuilder.UNBOUND);
    }

    private static void equalDescriptionsAreOne() {
        LazyBuilder x = new LazyBuilder();
        long first = Checks.shown(x, "D1(2D3())");
        S.due("D1(2D3())", first, LazyBuilder.PLAN + 2);
        S.due("the same again", Checks.shown(x, "D1(2D3())"), first);
        Checks.define(x, 'a', "D3()");
        S.due("the same in other words", Checks.shown(x, "D1(+11a)"), first);
        S.due("plans", x.count(0), 2);
        S.due("another builder", Checks.shown(x, "D2(2D3())"), LazyBuilder.PLAN + 3);
        S.due("another order", Checks.shown(x, "D1(D3()2)"), LazyBuilder.PLAN + 4);
        S.due("fewer inputs", Checks.shown(x, "D1(2)"), LazyBuilder.PLAN + 5);
        S.due("plans, with those unlike", x.count(0), 5);
    }

    private static void notBeforeItsResultIsWanted() {
        LazyBuilder x = new LazyBuilder();
        x.builder(1, 4);
        S.due("a plan that can't be built is written", Checks.shown(x, "D1()"), LazyBuilder.PLAN + 1);
        S.due("a plan that can be", Checks.shown(x, "D2(3)"), LazyBuilder.PLAN + 2);
        S.due("builds", x.count(1), 0);
        S.due("plan 2 is built", x.plan(2, 2), 0);
        S.due("its result, when it is wanted", Checks.shown(x, "OD2(3)"), 3);
        S.due("plan 2 is built then", x.plan(2, 2), 1);
        S.due("that of plan 1", Checks.show(x, "OD1()"), LazyBuilder.BROKEN);
    }

    private static void eachOnce() {
        LazyBuilder x = new LazyBuilder();
        Checks.define(x, 'a', "D1(3)");
        S.due("a's result, wanted three times", Checks.shown(x, "+Oa+OaOD1(3)"), 9);
        S.due("builds", x.count(1), 1);
        S.due("the result of a plan of it and itself", Checks.shown(x, "OD2(aaa)"), 9);
        S.due("builds, with that plan's", x.count(1), 2);
        S.due("build of a built plan", x.build(1), LazyBuilder.DONE);
        S.due("builds after that", x.count(1), 2);
    }

    private static void the512thCall() {
        LazyBuilder x = new LazyBuilder();
        for (int i = 0; i < 255; i++) {
            S.due("call " + (2 * i + 1) + ", type", x.type('7'), 1);
            S.due("call " + (2 * i + 2) + ", define", x.define(i % 8), 1);
        }
        S.due("call 511, force", x.force(7), LazyBuilder.DONE);
        S.due("call 512, value", x.value(7), 7);
    }

    /** A call that throws is told by Sentences. */
    private static void laterCallsDoNotThrow() {
        LazyBuilder x = new LazyBuilder();
        for (int i = 0; i < 1000; i++) {
            x.type(i % 2 == 0 ? '!' : '7');
            x.define(i % 9);
            x.force(i % 9);
            x.show();
        }
        S.due("calls, none of which threw", 4000, 4000);
    }
}
