/** The sentences of the promises 6 to 10: force, show, value, builder and build. */
final class Promises6To10Test {
    private static final Sentences S = new Sentences();
    private static final int DONE = LazyBuilder.DONE;
    private static final int REFUSED = LazyBuilder.REFUSED;
    private static final int CLOSED = LazyBuilder.CLOSED;
    private static final int[] NO_NAMES = {Integer.MIN_VALUE, -1, 8, 9, 'a', Integer.MAX_VALUE};

    public static void main(String[] args) {
        force();
        show();
        S.under("Promise 8: value");
        S.says("The VALUE kept of the name (0 .. 7)", Promises6To10Test::keptOfEachName);
        S.says("for 8, that SHOWN by the latest show that was DONE", Promises6To10Test::latestShown);
        S.says("NONE if there is none.", Promises6To10Test::noValue);
        S.under("Promise 9: builder");
        S.says("Sets the KIND (0 .. 4) of the builder (0 .. 9): DONE", Promises6To10Test::setsKinds);
        S.says("else REFUSED.", Promises6To10Test::wrongKinds);
        S.says("What is BUILT stays.", Promises6To10Test::builtStays);
        S.under("Promise 10: build");
        S.says("Builds the PLAN (1 .. as many as there are, else REFUSED).", Promises6To10Test::builds);
        S.says("CLOSED, BROKEN, or DONE.", Promises6To10Test::answersOfBuild);
        S.end();
    }

    private static void force() {
        S.under("Promise 6: force");
        S.says("Works the name (0 .. 7, else REFUSED) out", Promises6To10Test::forces);
        S.says("as an EXPRESSION of it alone (a STEP of its own).", Promises6To10Test::stepOfItsOwn);
        S.says("CLOSED, a failure, or DONE.", Promises6To10Test::answersOfForce);
    }

    private static void show() {
        S.under("Promise 7: show");
        S.says("Works the line's EXPRESSION out", Promises6To10Test::shows);
        S.says("the line is empty afterwards.", Promises6To10Test::emptyAfterShow);
        S.says("Not a good line: as define (also if CLOSED).", Promises6To10Test::badLineShown);
        S.says("CLOSED, a failure, or DONE: the VALUE is SHOWN.", Promises6To10Test::answersOfShow);
    }

    private static LazyBuilder closed() {
        LazyBuilder x = new LazyBuilder();
        Checks.define(x, 'a', "3");
        Checks.show(x, "D1(7)");
        Checks.fail(x, 30);
        return x;
    }

    private static void forces() {
        LazyBuilder x = new LazyBuilder();
        for (int name = 0; name < 8; name++) {
            Checks.define(x, (char) ('a' + name), "+1" + name);
        }
        for (int name = 0; name < 8; name++) {
            S.due("force(" + name + ")", x.force(name), DONE);
            S.due("value(" + name + ")", x.value(name), name + 1);
            S.due("kept", x.count(7), name + 1);
        }
        int steps = x.count(2);
        for (int name : NO_NAMES) {
            S.due("force(" + name + ")", x.force(name), REFUSED);
            S.due("force(" + name + ") when closed", closed().force(name), REFUSED);
        }
        S.due("the steps behind REFUSED", x.count(2), steps);
        S.due("FAILURES behind REFUSED", x.count(3), 0);
    }

    private static void stepOfItsOwn() {
        LazyBuilder x = new LazyBuilder();
        S.due("force of an unbound name", x.force(0), LazyBuilder.UNBOUND);
        S.due("its steps", x.count(2), 1);
        Checks.define(x, 'a', "5");
        x.force(0);
        S.due("the steps of a digit's name", x.count(2), 2);
        x.force(0);
        S.due("the steps of a kept one", x.count(2), 1);
        Checks.define(x, 'a', "a");
        x.force(0);
        S.due("the steps of a loop", x.count(2), 2);
        x.type('7');
        x.force(0);
        S.due("the line is not touched", x.count(4), 1);
        S.due("nothing is SHOWN", x.value(8), LazyBuilder.NONE);
    }

    private static void answersOfForce() {
        LazyBuilder x = new LazyBuilder();
        x.builder(4, 4);
        String[] texts = {"1", "D0()", "h", "O1", "!1", "OD4()", "a"};
        int[] answers = {DONE, DONE, LazyBuilder.UNBOUND, LazyBuilder.TYPE, LazyBuilder.ABORT,
            LazyBuilder.BROKEN, LazyBuilder.LOOP};
        for (int i = 0; i < texts.length; i++) {
            Checks.define(x, 'a', texts[i]);
            S.due("force of " + texts[i], x.force(0), answers[i]);
        }
        S.due("force when closed", closed().force(0), CLOSED);
        S.due("force of an unbound name when closed", closed().force(7), CLOSED);
    }

    private static void shows() {
        LazyBuilder x = new LazyBuilder();
        S.due("show of +12", Checks.shown(x, "+12"), 3);
        S.due("its steps", x.count(2), 3);
        S.due("show of D0(1)", Checks.shown(x, "D0(1)"), LazyBuilder.PLAN + 1);
        S.due("show of 0", Checks.shown(x, "0"), 0);
    }

    private static void emptyAfterShow() {
        String[] texts = {"1", "D0()", "h", "O1", "!1", "11", "+1"};
        LazyBuilder x = new LazyBuilder();
        for (String text : texts) {
            Checks.show(x, text);
            S.due("the length behind " + text, x.count(4), 0);
            S.due("the next character", x.type('1'), 1);
            x.show();
        }
        LazyBuilder y = closed();
        S.due("show when closed", Checks.show(y, "+12"), CLOSED);
        S.due("the length behind CLOSED", y.count(4), 0);
        S.due("the next character", y.type('1'), 1);
    }

    private static void badLine(LazyBuilder x, String text, int place) {
        int steps = x.count(2);
        int failures = x.count(3);
        S.due("show of " + text, Checks.show(x, text), LazyBuilder.SYNTAX);
        S.due("the bad place", x.count(5), place);
        S.due("the length", x.count(4), 0);
        S.due("the steps", x.count(2), steps);
        S.due("the FAILURES", x.count(3), failures);
    }

    private static void badLineShown() {
        for (LazyBuilder x : new LazyBuilder[] {new LazyBuilder(), closed()}) {
            badLine(x, "", 0);
            badLine(x, "+1", 2);
            badLine(x, "123", 1);
            badLine(x, "D0(11111)", 7);
            badLine(x, "!!!!!!!!1", 7);
        }
    }

    private static void answersOfShow() {
        LazyBuilder x = new LazyBuilder();
        x.builder(4, 4);
        Checks.define(x, 'a', "a");
        Checks.show(x, "8");
        String[] texts = {"h", "O1", "!1", "OD4()", "a"};
        int[] answers = {LazyBuilder.UNBOUND, LazyBuilder.TYPE, LazyBuilder.ABORT, LazyBuilder.BROKEN,
            LazyBuilder.LOOP};
        for (int i = 0; i < texts.length; i++) {
            S.due("show of " + texts[i], Checks.show(x, texts[i]), answers[i]);
            S.due("SHOWN stays", x.value(8), 8);
        }
        S.due("show of 7", Checks.show(x, "7"), DONE);
        S.due("SHOWN", x.value(8), 7);
        Checks.fail(x, 25);
        S.due("show when closed", Checks.show(x, "6"), CLOSED);
        S.due("SHOWN behind CLOSED", x.value(8), 7);
    }

    private static void keptOfEachName() {
        LazyBuilder x = new LazyBuilder();
        for (int name = 0; name < 8; name++) {
            Checks.define(x, (char) ('a' + name), "-2" + name);
        }
        for (int name = 0; name < 8; name++) {
            S.due("value(" + name + ") before", x.value(name), LazyBuilder.NONE);
            x.force(name);
            S.due("value(" + name + ")", x.value(name), 2 - name);
        }
        Checks.define(x, 'a', "D0()");
        x.force(0);
        S.due("a PLAN", x.value(0), LazyBuilder.PLAN + 1);
    }

    private static void latestShown() {
        LazyBuilder x = new LazyBuilder();
        S.due("at first", x.value(8), LazyBuilder.NONE);
        Checks.show(x, "!1");
        S.due("behind a failure alone", x.value(8), LazyBuilder.NONE);
        Checks.show(x, "0");
        S.due("behind show of 0", x.value(8), 0);
        Checks.show(x, "4");
        S.due("behind show of 4", x.value(8), 4);
        Checks.show(x, "!5");
        Checks.show(x, "55");
        Checks.define(x, 'a', "6");
        x.force(0);
        x.undefine(0);
        x.collect();
        S.due("behind calls that show nothing", x.value(8), 4);
        Checks.show(x, "D0()");
        S.due("behind show of a PLAN", x.value(8), LazyBuilder.PLAN + 1);
    }

    private static void noValue() {
        LazyBuilder x = new LazyBuilder();
        for (int name = 0; name <= 8; name++) {
            S.due("value(" + name + ") at first", x.value(name), LazyBuilder.NONE);
        }
        Checks.show(x, "5");
        Checks.define(x, 'a', "!1");
        x.force(0);
        S.due("value of one that failed", x.value(0), LazyBuilder.NONE);
        for (int name : new int[] {Integer.MIN_VALUE, -1, 9, 10, 'a', Integer.MAX_VALUE}) {
            S.due("value(" + name + ")", x.value(name), LazyBuilder.NONE);
        }
        Checks.define(x, 'a', "1");
        x.force(0);
        x.undefine(0);
        S.due("value of one that is bound no more", x.value(0), LazyBuilder.NONE);
    }

    private static void setsKinds() {
        long[] results = {9, 24, 4, 3, LazyBuilder.BROKEN};
        for (int b = 0; b < 10; b++) {
            LazyBuilder x = new LazyBuilder();
            for (int kind = 4; kind >= 0; kind--) {
                x.collect();
                S.due("builder(" + b + ", " + kind + ")", x.builder(b, kind), DONE);
                S.due("its RESULT", Checks.shown(x, "OD" + b + "(234)"), results[kind]);
            }
            x.builder(b, 1);
            S.due("another's RESULT", Checks.shown(x, "OD" + (b + 1) % 10 + "(234)"), 9);
        }
    }

    private static void wrongKinds() {
        LazyBuilder x = new LazyBuilder();
        int[] builders = {Integer.MIN_VALUE, -1, 10, '0', Integer.MAX_VALUE};
        int[] kinds = {Integer.MIN_VALUE, -1, 5, 9, Integer.MAX_VALUE};
        for (int i = 0; i < 5; i++) {
            S.due("builder(" + builders[i] + ", 1)", x.builder(builders[i], 1), REFUSED);
            S.due("builder(0, " + kinds[i] + ")", x.builder(0, kinds[i]), REFUSED);
            S.due("builder(9, " + kinds[i] + ")", x.builder(9, kinds[i]), REFUSED);
            S.due("both wrong", x.builder(builders[i], kinds[i]), REFUSED);
        }
        S.due("kind 0 stays", Checks.shown(x, "OD0(234)"), 9);
        S.due("kind 0 of 9 stays", Checks.shown(x, "OD9(234)"), 9);
    }

    private static void builtStays() {
        LazyBuilder x = new LazyBuilder();
        Checks.show(x, "OD1(34)");
        Checks.show(x, "D1(35)");
        for (int kind = 0; kind < 5; kind++) {
            x.builder(1, kind);
            S.due("it is BUILT", x.plan(1, 2), 1);
            S.due("its RESULT", x.plan(1, 3), 7);
            S.due("build", x.build(1), DONE);
            S.due("the builds", x.count(1), 1);
        }
        x.builder(1, 1);
        S.due("build of another", x.build(2), DONE);
        S.due("by the new KIND", x.plan(2, 3), 15);
    }

    private static void builds() {
        LazyBuilder x = new LazyBuilder();
        S.due("build(1) of an empty store", x.build(1), REFUSED);
        Checks.show(x, "D1(D2(D3(4)))");
        for (int plan : new int[] {Integer.MIN_VALUE, -1, 0, 4, 30, 31, Integer.MAX_VALUE}) {
            S.due("build(" + plan + ")", x.build(plan), REFUSED);
        }
        S.due("build(0) when closed", closed().build(0), REFUSED);
        S.due("build(2) when closed", closed().build(2), REFUSED);
        for (int plan = 1; plan <= 3; plan++) {
            S.due("build(" + plan + ")", x.build(plan), DONE);
            S.due("its RESULT", x.plan(plan, 3), 4);
            S.due("the builds", x.count(1), plan);
        }
        deepestBuild();
    }

    private static void deepestBuild() {
        LazyBuilder x = new LazyBuilder();
        for (char name = 'a'; name <= 'f'; name++) {
            char inner = name == 'f' ? '9' : (char) (name + 1);
            Checks.define(x, name, "D0(D0(D0(D0(D0(" + inner + ")))))");
        }
        x.force(0);
        S.due("plans in one another", x.count(0), 30);
        S.due("build(30)", x.build(30), DONE);
        S.due("the builds", x.count(1), 30);
        S.due("build(31)", x.build(31), REFUSED);
    }

    private static void answersOfBuild() {
        LazyBuilder x = new LazyBuilder();
        x.builder(4, 4);
        Checks.show(x, "D1(D4())");
        S.due("build(1)", x.build(1), LazyBuilder.BROKEN);
        S.due("build(2)", x.build(2), LazyBuilder.BROKEN);
        x.builder(4, 0);
        S.due("build(2) then", x.build(2), DONE);
        S.due("build(2) again", x.build(2), DONE);
        Checks.fail(x, 28);
        S.due("build(2) of a BUILT one when closed", x.build(2), CLOSED);
        LazyBuilder y = closed();
        S.due("build(1) when closed", y.build(1), CLOSED);
        S.due("it is not BUILT", y.plan(1, 2), 0);
    }
}
