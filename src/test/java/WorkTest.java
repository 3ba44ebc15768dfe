/** Promises 6, 7 and 8: force, show and value; how EXPRESSIONS are worked out. */
final class WorkTest {
    private static final Checks CHECKS = new Checks();
    private static final long PLAN = LazyBuilder.PLAN;

    // Fails with ABORT after 14 STEPS, 15 with the one of its name.
    private static final String ABORTS = "!+1+1+1+1+1+12";

    public static void main(String[] args) {
        numbers();
        wrapping();
        choices();
        abortsAndTries();
        types();
        orderOfFailures();
        names();
        loops();
        plans();
        cramped();
        steps();
        longWork();
        deepestWork();
        deepestOfEachSign();
        forcing();
        showing();
        wrongNames();
        CHECKS.end();
    }

    private static void shows(LazyBuilder x, String text, long want) {
        CHECKS.due("show of " + text, Checks.shown(x, text), want);
        CHECKS.due("the line after show of " + text, x.count(4), 0);
    }

    private static void shows(String text, long want) {
        shows(new LazyBuilder(), text, want);
    }

    private static void showsIn(String text, long want, int steps) {
        LazyBuilder x = new LazyBuilder();
        shows(x, text, want);
        CHECKS.due("steps of " + text, x.count(2), steps);
    }

    private static void numbers() {
        for (int digit = 0; digit < 10; digit++) {
            shows(String.valueOf(digit), digit);
        }
        shows("+34", 7);
        shows("-34", -1);
        shows("-43", 1);
        shows("*34", 12);
        shows("<34", 1);
        shows("<43", 0);
        shows("<33", 0);
        shows("<-120", 1);
        shows("-9*8+76", -95);
    }

    private static void wrapping() {
        LazyBuilder x = new LazyBuilder();
        Checks.define(x, 'a', "****88888");
        Checks.define(x, 'b', "*aa");
        Checks.define(x, 'c', "*b2");
        shows(x, "a", 1 << 15);
        shows(x, "b", 1 << 30);
        shows(x, "c", Integer.MIN_VALUE);
        shows(x, "-c1", Integer.MAX_VALUE);
        shows(x, "+cc", 0);
        shows(x, "*bb", 0);
        shows(x, "<c0", 1);
        shows(x, "<c-c1", 1);
        shows(x, "-0c", Integer.MIN_VALUE);
    }

    private static void choices() {
        showsIn("?123", 2, 3);
        showsIn("?023", 3, 3);
        showsIn("?-1223", 2, 5);
        showsIn("?1a3", LazyBuilder.UNBOUND, 3);
        showsIn("?12a", 2, 3);
        showsIn("?0+12*34", 12, 5);
        showsIn("?1+12*34", 3, 5);
        showsIn("?D1()12", LazyBuilder.TYPE, 2);
        showsIn("?a12", LazyBuilder.UNBOUND, 2);
        shows("?1D1()0", PLAN + 1);
        LazyBuilder x = new LazyBuilder();
        shows(x, "?0D1()4", 4);
        CHECKS.due("the store without the second", x.count(0), 0);
    }

    private static void abortsAndTries() {
        showsIn("!5", LazyBuilder.ABORT, 2);
        showsIn("!D1()", LazyBuilder.ABORT, 2);
        showsIn("!a", LazyBuilder.UNBOUND, 2);
        showsIn("!O1", LazyBuilder.TYPE, 3);
        showsIn("T!57", 7, 4);
        showsIn("Ta7", 7, 3);
        showsIn("T57", 5, 2);
        showsIn("T5a", 5, 2);
        showsIn("TO57", 7, 4);
        showsIn("T!1a", LazyBuilder.UNBOUND, 4);
        showsIn("TTab3", 3, 5);
        showsIn("+!1a", LazyBuilder.ABORT, 3);
        showsIn("T+1!23", 3, 6);
        LazyBuilder x = new LazyBuilder();
        x.builder(4, 4);
        shows(x, "TOD4()8", 8);
        CHECKS.due("failures made good", x.count(3), 1);
        shows(x, "TTabc", LazyBuilder.UNBOUND);
        CHECKS.due("two made good and one answered", x.count(3), 4);
        shows(x, "T12", 1);
        CHECKS.due("nothing to make good", x.count(3), 4);
    }

    private static void types() {
        for (char sign : "+-*<".toCharArray()) {
            showsIn(sign + "D1()2", LazyBuilder.TYPE, 3);
            showsIn(sign + "2D1()", LazyBuilder.TYPE, 3);
            showsIn(sign + "D1()D1()", LazyBuilder.TYPE, 3);
        }
        showsIn("O5", LazyBuilder.TYPE, 2);
        showsIn("OOD1()", LazyBuilder.TYPE, 3);
        showsIn("OD1()", 0, 2);
    }

    private static void orderOfFailures() {
        showsIn("+D1()a", LazyBuilder.UNBOUND, 3);
        showsIn("+D1()!1", LazyBuilder.ABORT, 4);
        showsIn("+a!1", LazyBuilder.UNBOUND, 2);
        showsIn("+!1a", LazyBuilder.ABORT, 3);
        showsIn("D1(1a!2)", LazyBuilder.UNBOUND, 3);
        LazyBuilder x = new LazyBuilder();
        shows(x, "D1(D2()a)", LazyBuilder.UNBOUND);
        CHECKS.due("the plan before the failure stays", x.count(0), 1);
        CHECKS.due("it has builder 2", x.plan(1, 0), 2);
    }

    private static void names() {
        LazyBuilder x = new LazyBuilder();
        Checks.define(x, 'a', "+b*cc");
        Checks.define(x, 'b', "4");
        Checks.define(x, 'c', "+b1");
        shows(x, "a", 29);
        CHECKS.due("steps, each name once", x.count(2), 10);
        CHECKS.due("value(0)", x.value(0), 29);
        CHECKS.due("value(1)", x.value(1), 4);
        CHECKS.due("value(2)", x.value(2), 5);
        CHECKS.due("kept", x.count(7), 3);
        shows(x, "+aa", 58);
        CHECKS.due("steps with a kept", x.count(2), 3);
        Checks.define(x, 'd', "+c!b");
        CHECKS.due("force of d", x.force(3), LazyBuilder.ABORT);
        CHECKS.due("value(3)", x.value(3), LazyBuilder.NONE);
        CHECKS.due("values kept before the failure", x.count(7), 2);
        shows(x, "Td1", 1);
        shows(x, "Td2", 2);
        CHECKS.due("a failed name is not being worked out", x.force(3), LazyBuilder.ABORT);
    }

    private static void loops() {
        LazyBuilder x = new LazyBuilder();
        Checks.define(x, 'a', "a");
        CHECKS.due("force of a", x.force(0), LazyBuilder.LOOP);
        CHECKS.due("steps", x.count(2), 2);
        shows(x, "Ta7", LazyBuilder.LOOP);
        Checks.define(x, 'b', "?0b5");
        CHECKS.due("force of b", x.force(1), LazyBuilder.DONE);
        CHECKS.due("value(1)", x.value(1), 5);
        Checks.define(x, 'c', "+d1");
        Checks.define(x, 'd', "Tc1");
        CHECKS.due("force of c", x.force(2), LazyBuilder.LOOP);
        CHECKS.due("force of d", x.force(3), LazyBuilder.LOOP);
        CHECKS.due("failures", x.count(3), 4);
        CHECKS.due("kept", x.count(7), 0);
        Checks.define(x, 'c', "6");
        CHECKS.due("force of d again", x.force(3), LazyBuilder.DONE);
        CHECKS.due("value(3)", x.value(3), 6);
    }

    private static void plans() {
        LazyBuilder x = new LazyBuilder();
        shows(x, "D1()", PLAN + 1);
        shows(x, "D2()", PLAN + 2);
        shows(x, "D1(0)", PLAN + 3);
        shows(x, "D1()", PLAN + 1);
        shows(x, "D1(12)", PLAN + 4);
        shows(x, "D1(21)", PLAN + 5);
        shows(x, "D1(1+11)", PLAN + 4);
        shows(x, "D1(D1())", PLAN + 6);
        shows(x, "D1(1)", PLAN + 7);
        shows(x, "D1(D1()D1(1))", PLAN + 8);
        shows(x, "D1(123)", PLAN + 9);
        shows(x, "D1(1230)", PLAN + 10);
        shows(x, "D1(1230)", PLAN + 10);
        CHECKS.due("plans", x.count(0), 10);
        CHECKS.due("nothing is built", x.count(1), 0);
        shows(x, "D0(1D0(2D0(34)5)D0(6)7)", PLAN + 14);
        CHECKS.due("the innermost came first", x.input(11, 0), 3);
        CHECKS.due("the next holds it", x.input(12, 1), PLAN + 11);
        CHECKS.due("the next holds 5", x.input(12, 2), 5);
        CHECKS.due("the third", x.input(13, 0), 6);
        CHECKS.due("the outermost begins with 1", x.input(14, 0), 1);
        CHECKS.due("the outermost, 1", x.input(14, 1), PLAN + 12);
        CHECKS.due("the outermost, 2", x.input(14, 2), PLAN + 13);
        CHECKS.due("the outermost ends with 7", x.input(14, 3), 7);
    }

    private static void cramped() {
        LazyBuilder x = new LazyBuilder();
        for (int i = 0; i < 30; i++) {
            shows(x, "D" + i / 10 + "(" + i % 10 + ")", PLAN + i + 1);
        }
        shows(x, "D3()", LazyBuilder.CRAMPED);
        shows(x, "TD3()1", LazyBuilder.CRAMPED);
        shows(x, "D3(a)", LazyBuilder.UNBOUND);
        shows(x, "D2(9)", PLAN + 30);
        CHECKS.due("failures", x.count(3), 3);
        CHECKS.due("plans", x.count(0), 30);
        CHECKS.due("plan(31, 0)", x.plan(31, 0), LazyBuilder.REFUSED);
        CHECKS.due("build(31)", x.build(31), LazyBuilder.REFUSED);
        CHECKS.due("build(30)", x.build(30), LazyBuilder.DONE);
    }

    private static void steps() {
        showsIn("1", 1, 1);
        showsIn("a", LazyBuilder.UNBOUND, 1);
        showsIn("D1(1234)", PLAN + 1, 5);
        showsIn("OD1(12)", 3, 4);
        LazyBuilder x = new LazyBuilder();
        x.force(0);
        CHECKS.due("steps of a force that failed", x.count(2), 1);
        shows(x, "+12", 3);
        CHECKS.due("steps of the latest only", x.count(2), 3);
        x.force(8);
        CHECKS.due("steps after a refused force", x.count(2), 3);
        Checks.show(x, "+1");
        CHECKS.due("steps after SYNTAX", x.count(2), 3);
    }

    /** Names so made that a line with them has 200 STEPS, or one more. */
    private static LazyBuilder nearlyLong() {
        LazyBuilder x = new LazyBuilder();
        Checks.define(x, 'b', ABORTS);
        Checks.define(x, 'a', "TbTbTbTbTbTb!0");
        Checks.define(x, 'c', "TbTbTbTbTbTbe");
        return x;
    }

    private static void longWork() {
        LazyBuilder x = nearlyLong();
        shows(x, "TaTc7", 7);
        CHECKS.due("steps of the longest", x.count(2), 200);
        CHECKS.due("failures made good", x.count(3), 14);
        LazyBuilder y = nearlyLong();
        shows(y, "TaTa7", LazyBuilder.LONG);
        CHECKS.due("steps when one is too many", y.count(2), 200);
        CHECKS.due("failures with LONG", y.count(3), 15);
        LazyBuilder z = nearlyLong();
        shows(z, "TTaTa71", LazyBuilder.LONG);
        CHECKS.due("steps when LONG is in a T", z.count(2), 200);
        CHECKS.due("kept after LONG", z.count(7), 0);
        shows(z, "+12", 3);
        CHECKS.due("the steps begin anew", z.count(2), 3);
        LazyBuilder w = nearlyLong();
        Checks.define(w, 'd', "TaTcg");
        CHECKS.due("force counts its own step", w.force(3), LazyBuilder.LONG);
        CHECKS.due("names are free after LONG", w.force(3), LazyBuilder.LONG);
    }

    private static void deepestWork() {
        LazyBuilder x = new LazyBuilder();
        for (char name = 'a'; name < 'h'; name++) {
            Checks.define(x, name, "+1+1+1+1+1+1+1" + (char) (name + 1));
        }
        Checks.define(x, 'h', "+1+1+1+1+1+1+12");
        shows(x, "+1+1+1+1+1+1+1a", 65);
        CHECKS.due("steps of the deepest", x.count(2), 135);
        Checks.define(x, 'h', "+1+1+1+1+1+1+1h");
        shows(x, "+1+1+1+1+1+1+1a", LazyBuilder.LOOP);
        Checks.define(x, 'h', "!!!!!!!D9()");
        shows(x, "!!!!!!!a", LazyBuilder.ABORT);
        CHECKS.due("the plan at the lowest level", x.count(0), 1);
        Checks.define(x, 'h', "D1(D2(D3(D4(5))))");
        for (char name = 'a'; name < 'h'; name++) {
            Checks.define(x, name, "D0(6" + (char) (name + 1) + ")");
        }
        shows(x, "OD0(7a)", 6 * 7 + 7 + 5);
    }

    /** Nine texts in one another, each as deep as it may be; N is where the next one stands. */
    private static void deepest(String pattern, char last, long want, int steps) {
        LazyBuilder x = new LazyBuilder();
        for (char name = 'a'; name < last; name++) {
            Checks.define(x, name, pattern.replace('N', (char) (name + 1)));
        }
        Checks.define(x, last, pattern.replace('N', '5'));
        shows(x, pattern.replace('N', 'a'), want);
        CHECKS.due("steps of " + pattern, x.count(2), steps);
    }

    private static void deepestOfEachSign() {
        deepest("+++++++N0000000", 'h', 5, 135);
        deepest("???????N00000000000000", 'h', 0, 135);
        deepest("?1?1?1?1?1?1?1N0000000", 'h', 5, 135);
        deepest("?00?00?00?00?00?00?00N", 'h', 5, 135);
        deepest("TTTTTTTN0000000", 'h', 5, 72);
        deepest("ThThThThThThThN", 'g', 5, 120);
        deepest("!!!!!!!N", 'h', LazyBuilder.ABORT, 72);
        deepest("OOOOOOON", 'h', LazyBuilder.TYPE, 72);
        deepest("D0(D0(D0(D0(D0(N)))))", 'h', LazyBuilder.CRAMPED, 54);
    }

    private static void forcing() {
        LazyBuilder x = new LazyBuilder();
        CHECKS.due("force of an unbound name", x.force(0), LazyBuilder.UNBOUND);
        Checks.define(x, 'a', "D3(1)");
        Checks.typeLine(x, "+1");
        CHECKS.due("force of a plan", x.force(0), LazyBuilder.DONE);
        CHECKS.due("its value", x.value(0), PLAN + 1);
        CHECKS.due("the line stays", x.count(4), 2);
        CHECKS.due("nothing is shown", x.value(8), LazyBuilder.NONE);
        CHECKS.due("nothing is built", x.count(1), 0);
        CHECKS.due("steps", x.count(2), 3);
        CHECKS.due("force again", x.force(0), LazyBuilder.DONE);
        CHECKS.due("steps of a kept one", x.count(2), 1);
        CHECKS.due("failures", x.count(3), 1);
    }

    private static void showing() {
        LazyBuilder x = new LazyBuilder();
        shows(x, "4", 4);
        Checks.define(x, 'a', "5");
        CHECKS.due("shown after define", x.value(8), 4);
        shows(x, "!1", LazyBuilder.ABORT);
        CHECKS.due("shown after a failure", x.value(8), 4);
        Checks.show(x, "11");
        CHECKS.due("shown after SYNTAX", x.value(8), 4);
        x.force(0);
        CHECKS.due("shown after force", x.value(8), 4);
        x.undefine(0);
        CHECKS.due("shown after undefine", x.value(8), 4);
        shows(x, "D1()", PLAN + 1);
        x.collect();
        CHECKS.due("shown after collect", x.value(8), PLAN + 1);
        CHECKS.due("show of an empty line", x.show(), LazyBuilder.SYNTAX);
        CHECKS.due("the bad place of an empty line", x.count(5), 0);
    }

    private static void wrongNames() {
        LazyBuilder x = new LazyBuilder();
        int[] wrong = {-1, 8, 9, Integer.MIN_VALUE, Integer.MAX_VALUE};
        for (int name : wrong) {
            CHECKS.due("force(" + name + ")", x.force(name), LazyBuilder.REFUSED);
        }
        shows(x, "1", 1);
        int[] none = {-1, 0, 7, 9, Integer.MIN_VALUE, Integer.MAX_VALUE};
        for (int name : none) {
            CHECKS.due("value(" + name + ")", x.value(name), LazyBuilder.NONE);
        }
        CHECKS.due("failures", x.count(3), 0);
    }
}
