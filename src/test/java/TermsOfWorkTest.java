/** Terms: the sentences on VALUES, THE STORE, WORKING OUT and its STEPS. */
final class TermsOfWorkTest {
    private static final Sentences S = new Sentences();
    private static final long PLAN = LazyBuilder.PLAN;

    public static void main(String[] args) {
        S.under("Terms");
        store();
        S.says("Each time that one is begun is a STEP.", TermsOfWorkTest::begunOnes);
        S.says("One after another, the first failure being its own", TermsOfWorkTest::firstFailure);
        namesAndDigits();
        pairsAndChoices();
        plansAndResults();
        S.says("A name whose working out failed isn't being worked out any more.",
                TermsOfWorkTest::failedNames);
        S.says("A STEP above the 200th of one call of force or show isn't done: LONG.",
                TermsOfWorkTest::the200thStep);
        S.end();
    }

    private static void store() {
        S.says("VALUES are NUMBERS (ints, wrapping) and PLANS.", TermsOfWorkTest::wrappingNumbers);
        S.says("THE STORE has at most 30 PLANS", TermsOfWorkTest::thirtyPlans);
        S.says("numbered 1, 2, .. in the order in which they came.", TermsOfWorkTest::orderOfComing);
        S.says("A PLAN has a builder 0 .. 9 and a list of INPUTS, VALUES",
                TermsOfWorkTest::buildersAndInputs);
        S.says("no two have both alike.", TermsOfWorkTest::noTwoAlike);
    }

    private static void namesAndDigits() {
        S.says("a digit: that NUMBER.", TermsOfWorkTest::digits);
        S.says("a name: it isn't bound: UNBOUND", TermsOfWorkTest::unboundNames);
        S.says("it is being worked out already: LOOP", TermsOfWorkTest::loops);
        S.says("it has a VALUE kept: that", TermsOfWorkTest::keptValues);
        S.says("else its EXPRESSION is worked out and the VALUE is kept.", TermsOfWorkTest::keeping);
    }

    private static void pairsAndChoices() {
        S.says("+ - *: both, then, if one isn't a NUMBER: TYPE", () -> takesNumbers("+-*"));
        S.says("the sum, difference, product.", TermsOfWorkTest::sumDifferenceProduct);
        S.says("<: the same, 1 if the first is less, else 0.", TermsOfWorkTest::less);
        S.says("?: the first; it isn't a NUMBER: TYPE", TermsOfWorkTest::choiceByAPlan);
        S.says("then the second if that isn't 0, else the third, alone.", TermsOfWorkTest::choices);
        S.says("!: what is in it, then, whatever it is, ABORT.", TermsOfWorkTest::aborts);
        S.says("T: the first; if that fails with UNBOUND, TYPE, ABORT or BROKEN, the second instead.",
                TermsOfWorkTest::tries);
    }

    private static void plansAndResults() {
        S.says("D: the list in order", TermsOfWorkTest::listInOrder);
        S.says("then the PLAN with that builder and those INPUTS, which comes into THE STORE if it isn't"
                + " there", TermsOfWorkTest::comesIfNotThere);
        S.says("30 are there: CRAMPED.", TermsOfWorkTest::cramped);
        S.says("O: what is in it; it isn't a PLAN: TYPE", TermsOfWorkTest::resultOfNoPlan);
        S.says("it is built; its RESULT.", TermsOfWorkTest::resultOfAPlan);
    }

    private static void shows(LazyBuilder x, String text, long want) {
        S.due("show of " + text, Checks.shown(x, text), want);
    }

    private static void showsIn(String text, long want, int steps) {
        LazyBuilder x = new LazyBuilder();
        shows(x, text, want);
        S.due("the steps of " + text, x.count(2), steps);
    }

    private static LazyBuilder withPlans(int plans) {
        LazyBuilder x = new LazyBuilder();
        for (int i = 0; i < plans; i++) {
            Checks.show(x, "D" + i / 10 + "(" + i % 10 + ")");
        }
        return x;
    }

    private static LazyBuilder withGreatNumbers() {
        LazyBuilder x = new LazyBuilder();
        Checks.define(x, 'd', "****88888");
        Checks.define(x, 'e', "*dd");
        Checks.define(x, 'f', "+ee");
        Checks.define(x, 'g', "-f1");
        return x;
    }

    private static void wrappingNumbers() {
        LazyBuilder x = withGreatNumbers();
        shows(x, "e", 1 << 30);
        shows(x, "f", Integer.MIN_VALUE);
        shows(x, "g", Integer.MAX_VALUE);
        shows(x, "+g1", Integer.MIN_VALUE);
        shows(x, "-0f", Integer.MIN_VALUE);
        shows(x, "*g2", -2);
        shows(x, "*gg", 1);
        shows(x, "*ee", 0);
        shows(x, "D0(f)", PLAN + 1);
        S.due("the least NUMBER as an INPUT", x.input(1, 0), Integer.MIN_VALUE);
    }

    private static void thirtyPlans() {
        LazyBuilder x = withPlans(29);
        S.due("29 plans", x.count(0), 29);
        shows(x, "D9(1)", PLAN + 30);
        S.due("30 plans", x.count(0), 30);
        S.due("the builder of the 30th", x.plan(30, 0), 9);
        shows(x, "D9(2)", LazyBuilder.CRAMPED);
        S.due("still 30 plans", x.count(0), 30);
        S.due("there is no 31st", x.plan(31, 0), LazyBuilder.REFUSED);
    }

    private static void orderOfComing() {
        LazyBuilder x = new LazyBuilder();
        shows(x, "D5()", PLAN + 1);
        shows(x, "D4(D3()D2())", PLAN + 4);
        int[] builders = {5, 3, 2, 4};
        for (int i = 0; i < builders.length; i++) {
            S.due("the builder of plan " + (i + 1), x.plan(i + 1, 0), builders[i]);
        }
        shows(x, "D3()", PLAN + 2);
        shows(x, "D1()", PLAN + 5);
    }

    private static void buildersAndInputs() {
        LazyBuilder x = new LazyBuilder();
        for (int b = 0; b < 10; b++) {
            shows(x, "D" + b + "()", PLAN + b + 1);
            S.due("the builder of D" + b + "()", x.plan(b + 1, 0), b);
        }
        shows(x, "D0(0-09D9()D0())", PLAN + 11);
        long[] inputs = {0, -9, PLAN + 10, PLAN + 1};
        for (int i = 0; i < inputs.length; i++) {
            S.due("INPUT " + i, x.input(11, i), inputs[i]);
        }
        shows(x, "D1(1D2(34)5)", PLAN + 13);
        S.due("an INPUT before a D with INPUTS", x.input(13, 0), 1);
        S.due("an INPUT behind it", x.input(13, 2), 5);
    }

    private static void noTwoAlike() {
        LazyBuilder x = new LazyBuilder();
        String[] different = {"D1()", "D1(0)", "D1(00)", "D1(000)", "D1(0000)", "D2()", "D2(0)", "D1(1)",
            "D1(D1())", "D1(12)", "D1(21)", "D1(D1()1)", "D1(1D1())"};
        for (int round = 0; round < 2; round++) {
            for (int i = 0; i < different.length; i++) {
                shows(x, different[i], PLAN + i + 1);
            }
        }
        shows(x, "D1(-11)", PLAN + 2);
        x.builder(1, 1);
        x.root(2, true);
        x.build(2);
        shows(x, "D1(0)", PLAN + 2);
        S.due("the plans", x.count(0), different.length);
    }

    private static void begunOnes() {
        showsIn("0", 0, 1);
        showsIn("D0()", PLAN + 1, 1);
        showsIn("+1*23", 7, 5);
        showsIn("?123", 2, 3);
        showsIn("T12", 1, 2);
        showsIn("OD0(D0(1)D0(2))", 3, 6);
        showsIn("+!1a", LazyBuilder.ABORT, 3);
        LazyBuilder x = new LazyBuilder();
        Checks.define(x, 'a', "+11");
        shows(x, "+aa", 4);
        S.due("a name once worked out and once kept", x.count(2), 6);
        Checks.define(x, 'b', "!1");
        shows(x, "TbTb5", 5);
        S.due("a name that fails is begun each time", x.count(2), 9);
    }

    private static void firstFailure() {
        showsIn("+a!1", LazyBuilder.UNBOUND, 2);
        showsIn("+!1a", LazyBuilder.ABORT, 3);
        showsIn("-O1!1", LazyBuilder.TYPE, 3);
        showsIn("?a!1!1", LazyBuilder.UNBOUND, 2);
        showsIn("?!1aa", LazyBuilder.ABORT, 3);
        showsIn("D0(1!2a3)", LazyBuilder.ABORT, 4);
        showsIn("D0(1a!23)", LazyBuilder.UNBOUND, 3);
        showsIn("!O1", LazyBuilder.TYPE, 3);
        showsIn("O!1", LazyBuilder.ABORT, 3);
        showsIn("+D0()!1", LazyBuilder.ABORT, 4);
    }

    private static void digits() {
        for (int digit = 0; digit < 10; digit++) {
            showsIn("" + digit, digit, 1);
        }
    }

    private static void unboundNames() {
        for (char name = 'a'; name <= 'h'; name++) {
            showsIn("" + name, LazyBuilder.UNBOUND, 1);
        }
        LazyBuilder x = new LazyBuilder();
        Checks.define(x, 'a', "5");
        x.force(0);
        x.undefine(0);
        shows(x, "a", LazyBuilder.UNBOUND);
        Checks.define(x, 'b', "+1a");
        S.due("force of b", x.force(1), LazyBuilder.UNBOUND);
        S.due("its steps", x.count(2), 4);
    }

    private static void loops() {
        LazyBuilder x = new LazyBuilder();
        for (char name = 'a'; name <= 'h'; name++) {
            Checks.define(x, name, "+1" + (name == 'h' ? 'a' : (char) (name + 1)));
        }
        S.due("force of a round of eight", x.force(0), LazyBuilder.LOOP);
        S.due("its steps", x.count(2), 25);
        for (String inner : new String[] {"a", "!a", "Oa", "Ta1", "?a11", "?1a1", "D0(a)", "<1a"}) {
            Checks.define(x, 'a', inner);
            S.due("force of " + inner, x.force(0), LazyBuilder.LOOP);
        }
        for (String inner : new String[] {"?0a7", "?17a", "T7a"}) {
            Checks.define(x, 'a', inner);
            S.due("force of " + inner, x.force(0), LazyBuilder.DONE);
        }
        Checks.define(x, 'b', "+aa");
        shows(x, "+ba", 21);
    }

    private static void keptValues() {
        LazyBuilder x = new LazyBuilder();
        String[] texts = {"-22", "-01", "D0()", "OD1(34)"};
        long[] values = {0, -1, PLAN + 1, 7};
        for (int i = 0; i < texts.length; i++) {
            Checks.define(x, (char) ('a' + i), texts[i]);
        }
        for (int i = 0; i < texts.length; i++) {
            x.force(i);
            S.due("the first force of " + texts[i] + " takes steps", x.count(2) > 1 ? 1 : 0, 1);
            S.due("force again", x.force(i), LazyBuilder.DONE);
            S.due("its steps", x.count(2), 1);
            S.due("its value", x.value(i), values[i]);
        }
        x.builder(1, 1);
        x.collect();
        shows(x, "d", 7);
        S.due("a kept value needs no building", x.plan(2, 2), 0);
    }

    private static void keeping() {
        LazyBuilder x = new LazyBuilder();
        Checks.define(x, 'a', "+b1");
        Checks.define(x, 'b', "4");
        Checks.define(x, 'c', "+a!b");
        S.due("kept before", x.count(7), 0);
        S.due("force of c", x.force(2), LazyBuilder.ABORT);
        S.due("value of a", x.value(0), 5);
        S.due("value of b", x.value(1), 4);
        S.due("value of c, which failed", x.value(2), LazyBuilder.NONE);
        S.due("kept", x.count(7), 2);
        LazyBuilder y = new LazyBuilder();
        Checks.define(y, 'h', "0");
        shows(y, "?0h3", 3);
        S.due("a name that isn't wanted isn't kept", y.value(7), LazyBuilder.NONE);
        shows(y, "h", 0);
        S.due("a value of 0 is kept", y.value(7), 0);
        S.due("it is counted", y.count(7), 1);
    }

    private static void takesNumbers(String signs) {
        for (char sign : signs.toCharArray()) {
            showsIn(sign + "D0()2", LazyBuilder.TYPE, 3);
            showsIn(sign + "2D0()", LazyBuilder.TYPE, 3);
            showsIn(sign + "D0()D0()", LazyBuilder.TYPE, 3);
            showsIn(sign + "D0()a", LazyBuilder.UNBOUND, 3);
            LazyBuilder x = new LazyBuilder();
            shows(x, sign + "D0()D1()", LazyBuilder.TYPE);
            S.due("both were worked out", x.count(0), 2);
        }
    }

    private static void sumDifferenceProduct() {
        showsIn("+95", 14, 3);
        showsIn("-95", 4, 3);
        showsIn("-59", -4, 3);
        showsIn("*95", 45, 3);
        showsIn("*90", 0, 3);
        showsIn("+00", 0, 3);
    }

    private static void less() {
        takesNumbers("<");
        showsIn("<01", 1, 3);
        showsIn("<10", 0, 3);
        showsIn("<00", 0, 3);
        LazyBuilder x = withGreatNumbers();
        shows(x, "<fg", 1);
        shows(x, "<gf", 0);
        shows(x, "<ff", 0);
        shows(x, "<f0", 1);
        shows(x, "<-010", 1);
    }

    private static void choiceByAPlan() {
        showsIn("?D0()12", LazyBuilder.TYPE, 2);
        showsIn("?aD0()1", LazyBuilder.UNBOUND, 2);
        LazyBuilder x = new LazyBuilder();
        shows(x, "?D0()D1()D2()", LazyBuilder.TYPE);
        S.due("neither of the others was begun", x.count(0), 1);
    }

    private static void choices() {
        showsIn("?123", 2, 3);
        showsIn("?023", 3, 3);
        showsIn("?-0123", 2, 5);
        showsIn("?1a3", LazyBuilder.UNBOUND, 3);
        showsIn("?0a3", 3, 3);
        showsIn("?12a", 2, 3);
        LazyBuilder x = withGreatNumbers();
        shows(x, "?+ff23", 3);
        shows(x, "?f23", 2);
        shows(x, "?0D0()D1()", PLAN + 1);
        S.due("the third alone was worked out", x.plan(1, 0), 1);
        shows(x, "?2D2()D3()", PLAN + 2);
        S.due("the second alone was worked out", x.plan(2, 0), 2);
        S.due("the plans", x.count(0), 2);
    }

    private static void aborts() {
        showsIn("!0", LazyBuilder.ABORT, 2);
        showsIn("!D0()", LazyBuilder.ABORT, 2);
        showsIn("!a", LazyBuilder.UNBOUND, 2);
        showsIn("!!0", LazyBuilder.ABORT, 3);
        LazyBuilder x = new LazyBuilder();
        Checks.define(x, 'a', "D0(3)");
        shows(x, "!Oa", LazyBuilder.ABORT);
        S.due("what is in it was worked out", x.value(0), PLAN + 1);
        S.due("and built", x.plan(1, 2), 1);
    }

    private static void tries() {
        showsIn("Ta7", 7, 3);
        showsIn("TO17", 7, 4);
        showsIn("T!17", 7, 4);
        showsIn("T7a", 7, 2);
        showsIn("TD0()7", PLAN + 1, 2);
        showsIn("T!1a", LazyBuilder.UNBOUND, 4);
        showsIn("Ta!1", LazyBuilder.ABORT, 4);
        LazyBuilder x = new LazyBuilder();
        x.builder(4, 4);
        shows(x, "TOD4()7", 7);
        Checks.define(x, 'a', "a");
        shows(x, "Ta7", LazyBuilder.LOOP);
        shows(withPlans(30), "TD9()7", LazyBuilder.CRAMPED);
        LazyBuilder y = nearlyLong();
        shows(y, "Ta7", LazyBuilder.LONG);
        S.due("seven ABORTS were made good, LONG was answered alone", y.count(3), 8);
    }

    private static void listInOrder() {
        LazyBuilder x = new LazyBuilder();
        shows(x, "D0(D4()D3()D2()D1())", PLAN + 5);
        for (int i = 0; i < 4; i++) {
            S.due("INPUT " + i, x.input(5, i), PLAN + i + 1);
            S.due("the builder of INPUT " + i, x.plan(i + 1, 0), 4 - i);
        }
        LazyBuilder y = new LazyBuilder();
        shows(y, "D0(D1()aD2())", LazyBuilder.UNBOUND);
        S.due("those behind the failure were not begun", y.count(0), 1);
    }

    private static void comesIfNotThere() {
        LazyBuilder x = new LazyBuilder();
        shows(x, "D0(12)", PLAN + 1);
        shows(x, "D0(1+11)", PLAN + 1);
        S.due("one plan", x.count(0), 1);
        shows(x, "D1(D0(12)D0(12))", PLAN + 2);
        S.due("two plans", x.count(0), 2);
        S.due("the first INPUT is the one that was there", x.input(2, 0), PLAN + 1);
        S.due("the second too", x.input(2, 1), PLAN + 1);
        S.due("one that comes isn't BUILT", x.plan(2, 2), 0);
    }

    private static void cramped() {
        LazyBuilder x = withPlans(30);
        shows(x, "D9()", LazyBuilder.CRAMPED);
        shows(x, "D2(9)", PLAN + 30);
        shows(x, "D0(0)", PLAN + 1);
        shows(x, "D9(a)", LazyBuilder.UNBOUND);
        Checks.define(x, 'a', "4");
        shows(x, "D9(a)", LazyBuilder.CRAMPED);
        S.due("the list was worked out before", x.value(0), 4);
        S.due("the plans", x.count(0), 30);
        LazyBuilder y = withPlans(29);
        shows(y, "D8(D9())", LazyBuilder.CRAMPED);
        S.due("the inner one came", y.plan(30, 0), 9);
        shows(y, "D9()", PLAN + 30);
    }

    private static void resultOfNoPlan() {
        showsIn("O0", LazyBuilder.TYPE, 2);
        showsIn("O1", LazyBuilder.TYPE, 2);
        showsIn("OOD0()", LazyBuilder.TYPE, 3);
        showsIn("Oa", LazyBuilder.UNBOUND, 2);
        LazyBuilder x = new LazyBuilder();
        Checks.show(x, "D0()");
        shows(x, "O1", LazyBuilder.TYPE);
        S.due("nothing was built", x.count(1), 0);
    }

    private static void resultOfAPlan() {
        LazyBuilder x = new LazyBuilder();
        shows(x, "OD0()", 0);
        S.due("it is BUILT", x.plan(1, 2), 1);
        shows(x, "OD0(45)", 9);
        shows(x, "+OD0(45)OD0(45)", 18);
        S.due("each is built once", x.count(1), 2);
        shows(x, "OD0(OD0(45)1)", 10);
        S.due("a RESULT is a NUMBER in a list", x.input(3, 0), 9);
        shows(x, "OD0(D0(45)2)", 11);
        S.due("a PLAN stays a PLAN in a list", x.input(4, 0), PLAN + 2);
        resultOfThirtyInOneAnother();
    }

    private static void resultOfThirtyInOneAnother() {
        LazyBuilder x = new LazyBuilder();
        for (char name = 'a'; name < 'f'; name++) {
            Checks.define(x, name, "D0(D0(D0(D0(D0(" + (char) (name + 1) + ")))))");
        }
        Checks.define(x, 'f', "D0(D0(D0(D0(D0(7)))))");
        shows(x, "Oa", 7);
        S.due("plans in one another", x.count(0), 30);
        S.due("the builds of one O", x.count(1), 30);
    }

    private static void failsAgain(LazyBuilder x, int name, int want) {
        for (int i = 0; i < 2; i++) {
            S.due("force(" + name + ")", x.force(name), want);
        }
    }

    private static void failedNames() {
        LazyBuilder x = new LazyBuilder();
        x.builder(4, 4);
        String[] texts = {"h", "O1", "!1", "OD4()"};
        int[] answers = {LazyBuilder.UNBOUND, LazyBuilder.TYPE, LazyBuilder.ABORT, LazyBuilder.BROKEN};
        for (int i = 0; i < texts.length; i++) {
            Checks.define(x, 'a', texts[i]);
            failsAgain(x, 0, answers[i]);
            shows(x, "TaTa5", 5);
        }
        LazyBuilder full = withPlans(30);
        Checks.define(full, 'a', "D9()");
        failsAgain(full, 0, LazyBuilder.CRAMPED);
        failsAgain(nearlyLong(), 0, LazyBuilder.LONG);
        LazyBuilder loop = new LazyBuilder();
        Checks.define(loop, 'a', "?OD1()a5");
        loop.builder(1, 1);
        failsAgain(loop, 0, LazyBuilder.LOOP);
        loop.builder(1, 0);
        loop.collect();
        S.due("force where it loops no more", loop.force(0), LazyBuilder.DONE);
        S.due("its value", loop.value(0), 5);
    }

    /** The line of a, shown, has 200 STEPS, the last of which is D9(); a itself has 201. */
    private static LazyBuilder nearlyLong() {
        LazyBuilder x = new LazyBuilder();
        Checks.define(x, 'b', "!++++111++111+++111++111");
        Checks.define(x, 'c', "D0(+++111++111?1231D9())");
        Checks.define(x, 'a', "TbTbTbTbTbTbTbc");
        return x;
    }

    private static void the200thStep() {
        LazyBuilder x = nearlyLong();
        shows(x, "TbTbTbTbTbTbTbc", PLAN + 2);
        S.due("the steps of 200", x.count(2), 200);
        S.due("the plan of the 200th", x.plan(1, 0), 9);
        LazyBuilder y = nearlyLong();
        S.due("force of one more", y.force(0), LazyBuilder.LONG);
        S.due("the steps of it", y.count(2), 200);
        S.due("the 201st is not done", y.count(0), 0);
        shows(y, "+12", 3);
        S.due("each call has steps of its own", y.count(2), 3);
        LazyBuilder z = nearlyLong();
        shows(z, "a", LazyBuilder.LONG);
        S.due("the steps of a shown", z.count(2), 200);
        S.due("nothing came", z.count(0), 0);
        Checks.define(z, 'c', "D0(+++111++111?1231d)");
        shows(z, "TbTbTbTbTbTbTbc", LazyBuilder.UNBOUND);
        S.due("the 200th may fail by itself", z.count(2), 200);
    }
}
