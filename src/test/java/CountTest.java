/** Promise 15: count; how FAILURES are counted and what CLOSED does. */
final class CountTest {
    private static final Checks CHECKS = new Checks();

    public static void main(String[] args) {
        allCounts();
        wrongCounts();
        everySortOfFailure();
        noFailures();
        closing();
        closedCalls();
        closedShow();
        closedByTries();
        CHECKS.end();
    }

    private static void counts(LazyBuilder x, int... want) {
        for (int what = 0; what < want.length; what++) {
            CHECKS.due("count(" + what + ")", x.count(what), want[what]);
        }
    }

    private static void allCounts() {
        LazyBuilder x = new LazyBuilder();
        counts(x, 0, 0, 0, 0, 0, -1, 0, 0);
        Checks.define(x, 'a', "D1(2D2(3))");
        Checks.define(x, 'b', "Oa");
        Checks.define(x, 'c', "T!14");
        Checks.define(x, 'd', "+1");
        x.force(1);
        x.force(2);
        x.types(Checks.packed("+12"));
        counts(x, 2, 2, 5, 1, 3, 2, 3, 3);
    }

    private static void wrongCounts() {
        LazyBuilder x = new LazyBuilder();
        int[] wrong = {-1, 8, Integer.MIN_VALUE, Integer.MAX_VALUE};
        for (int what : wrong) {
            CHECKS.due("count(" + what + ")", x.count(what), LazyBuilder.REFUSED);
        }
    }

    private static void everySortOfFailure() {
        LazyBuilder x = new LazyBuilder();
        x.builder(4, 4);
        Checks.define(x, 'a', "a");
        String[] lines = {"b", "O1", "!1", "OD4()", "a"};
        int[] answers = {LazyBuilder.UNBOUND, LazyBuilder.TYPE, LazyBuilder.ABORT, LazyBuilder.BROKEN,
            LazyBuilder.LOOP};
        for (int i = 0; i < lines.length; i++) {
            CHECKS.due("show of " + lines[i], Checks.show(x, lines[i]), answers[i]);
            CHECKS.due("failures", x.count(3), i + 1);
        }
        CHECKS.due("build(1)", x.build(1), LazyBuilder.BROKEN);
        CHECKS.due("failures with build's", x.count(3), 6);
        CHECKS.due("force(0)", x.force(0), LazyBuilder.LOOP);
        CHECKS.due("failures with force's", x.count(3), 7);
    }

    private static void noFailures() {
        LazyBuilder x = new LazyBuilder();
        x.type('x');
        x.types(-1L);
        x.define(9);
        x.define(0);
        x.undefine(0);
        x.force(-1);
        x.show();
        x.builder(10, 0);
        x.build(1);
        x.root(1, true);
        x.plan(1, 0);
        x.count(9);
        for (int i = 0; i < 25; i++) {
            x.type('!');
        }
        counts(x, 0, 0, 0, 0, 24, 0, 0, 0);
    }

    private static void closing() {
        LazyBuilder x = new LazyBuilder();
        Checks.fail(x, 29);
        CHECKS.due("29 failures", x.count(3), 29);
        CHECKS.due("not closed yet", Checks.shown(x, "OD1(5)"), 5);
        CHECKS.due("the 30th", x.force(0), LazyBuilder.UNBOUND);
        CHECKS.due("30 failures", x.count(3), 30);
        CHECKS.due("force is closed", x.force(0), LazyBuilder.CLOSED);
        CHECKS.due("build is closed, even of what is built", x.build(1), LazyBuilder.CLOSED);
        CHECKS.due("show is closed", Checks.show(x, "1"), LazyBuilder.CLOSED);
        CHECKS.due("CLOSED is no failure", x.count(3), 30);
        CHECKS.due("steps of the 30th stay", x.count(2), 1);
        CHECKS.due("shown stays", x.value(8), 5);
    }

    private static void closedCalls() {
        LazyBuilder x = new LazyBuilder();
        Checks.show(x, "D1(5)");
        Checks.define(x, 'a', "3");
        x.force(0);
        Checks.fail(x, 30);
        CHECKS.due("force(8) closed", x.force(8), LazyBuilder.REFUSED);
        CHECKS.due("build(2) closed", x.build(2), LazyBuilder.REFUSED);
        CHECKS.due("force(0) closed", x.force(0), LazyBuilder.CLOSED);
        CHECKS.due("the value stays", x.value(0), 3);
        CHECKS.due("build(1) closed", x.build(1), LazyBuilder.CLOSED);
        CHECKS.due("it is not built", x.plan(1, 2), 0);
        CHECKS.due("root closed", x.root(1, true), LazyBuilder.DONE);
        CHECKS.due("collect closed", x.collect(), 0);
        CHECKS.due("builder closed", x.builder(1, 1), LazyBuilder.DONE);
        CHECKS.due("define closed", Checks.define(x, 'b', "+12"), 2);
        CHECKS.due("undefine closed", x.undefine(1), LazyBuilder.DONE);
        counts(x, 1, 0, 2, 30, 0, -1, 1, 0);
    }

    private static void closedShow() {
        LazyBuilder x = new LazyBuilder();
        Checks.fail(x, 30);
        CHECKS.due("show of +1 closed", Checks.show(x, "+1"), LazyBuilder.SYNTAX);
        counts(x, 0, 0, 2, 30, 0, 2, 0, 0);
        CHECKS.due("show of +D1()2 closed", Checks.show(x, "+D1()2"), LazyBuilder.CLOSED);
        counts(x, 0, 0, 2, 30, 0, 2, 0, 0);
        CHECKS.due("the next character is the line's first", x.type('7'), 1);
        CHECKS.due("the line is that character alone", x.define(0), 1);
        CHECKS.due("nothing was shown", x.value(8), LazyBuilder.NONE);
    }

    private static void closedByTries() {
        LazyBuilder x = new LazyBuilder();
        Checks.fail(x, 28);
        CHECKS.due("a call that began goes on", Checks.shown(x, "TaTbTcTd7"), 7);
        CHECKS.due("failures", x.count(3), 32);
        CHECKS.due("closed then", Checks.show(x, "1"), LazyBuilder.CLOSED);
        LazyBuilder y = new LazyBuilder();
        Checks.fail(y, 28);
        CHECKS.due("one made good, one answered", Checks.shown(y, "Tab"), LazyBuilder.UNBOUND);
        CHECKS.due("30", y.count(3), 30);
        CHECKS.due("closed", Checks.show(y, "1"), LazyBuilder.CLOSED);
    }
}
