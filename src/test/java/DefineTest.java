/** Promises 4 and 5: define and undefine; what a good line is, its depth and the bad place. */
final class DefineTest {
    private static final Checks CHECKS = new Checks();

    public static void main(String[] args) {
        goodLines();
        deepestLines();
        unfinishedLines();
        badLines();
        tooDeepLines();
        wrongNames();
        latestBadPlace();
        earlierLinesAreGone();
        valuesAreForgotten();
        undefining();
        rebinding();
        CHECKS.end();
    }

    private static void good(String text, int depth) {
        LazyBuilder x = new LazyBuilder();
        CHECKS.due("define of " + text, Checks.define(x, 'c', text), depth);
        CHECKS.due("the line after " + text, x.count(4), 0);
        CHECKS.due("the bad place after " + text, x.count(5), -1);
        CHECKS.due("names bound after " + text, x.count(6), 1);
        CHECKS.due("steps by define of " + text, x.count(2), 0);
    }

    private static void bad(String text, int place) {
        LazyBuilder x = new LazyBuilder();
        CHECKS.due("define of " + text, Checks.define(x, 'c', text), LazyBuilder.SYNTAX);
        CHECKS.due("the bad place of " + text, x.count(5), place);
        CHECKS.due("the line after " + text, x.count(4), 0);
        CHECKS.due("names bound after " + text, x.count(6), 0);
        CHECKS.due("failures after " + text, x.count(3), 0);
        LazyBuilder y = new LazyBuilder();
        CHECKS.due("show of " + text, Checks.show(y, text), LazyBuilder.SYNTAX);
        CHECKS.due("the bad place by show of " + text, y.count(5), place);
        CHECKS.due("the line after show of " + text, y.count(4), 0);
        CHECKS.due("failures after show of " + text, y.count(3), 0);
        CHECKS.due("steps by show of " + text, y.count(2), 0);
    }

    private static void goodLines() {
        String[] leaves = {"0", "9", "a", "c", "h", "D0()", "D9()"};
        for (String leaf : leaves) {
            good(leaf, 1);
        }
        String[] pairs = {"+12", "-12", "*ab", "<1a", "T12", "?123", "!1", "O1", "OD1()", "D9(0)",
            "D9(0a2h)", "D3(D0()D1()D2()D3())"};
        for (String pair : pairs) {
            good(pair, 2);
        }
        String[] threes = {"+1!2", "+!21", "?12!3", "?1!23", "?!123", "D1(1D2(3D4())4)", "T!1O2"};
        for (String three : threes) {
            good(three, 3);
        }
    }

    private static void deepestLines() {
        good("!!!!!!!1", 8);
        good("!!!!!!!D1()", 8);
        good("!!!!!!D1(1)", 8);
        good("+1+1+1+1+1+1+12", 8);
        good("+++++++01234567", 8);
        good("???????000000000000000", 8);
        good("D0(D0(D0(D0(D0(D0())))))", 6);
        good("D0(D0(D0(D0(D0(0000)))))", 6);
        good("D0(1!!!!!!2)", 8);
    }

    private static void unfinishedLines() {
        String[] beginnings = {"", "+", "+1", "?", "?1", "?12", "!", "T", "T1", "O", "D", "D1", "D1(",
            "D1(1", "D1(1111", "D1(+1", "D1(D2()", "+D1()", "!!!!!!!", "!!!!!!!D", "!!!!!!!D1",
            "!!!!!!!D1(", "!!!!!!D1(1", "???????00000000000000", "D0(D0(D0(D0(D0(D0()))))"};
        for (String beginning : beginnings) {
            bad(beginning, beginning.length());
        }
    }

    private static void badLines() {
        bad("(", 0);
        bad(")", 0);
        bad("(1)", 0);
        bad("11", 1);
        bad("1a", 1);
        bad("a+", 1);
        bad("+123", 3);
        bad("!1)", 2);
        bad("D1()1", 4);
        bad("D1())", 4);
        bad("Da()", 1);
        bad("D()", 1);
        bad("DD", 1);
        bad("D11", 2);
        bad("D1)", 2);
        bad("D1D", 2);
        bad("D1((", 3);
        bad("D1(1(", 4);
        bad("D1(+)", 4);
        bad("D1(+1)", 5);
        bad("D1(11111)", 7);
        bad("D1(1111D", 7);
        bad("D1(1111(", 7);
        bad("D1(1D2(11111))", 11);
        bad("D1(1111)1", 8);
        bad("+(", 1);
        bad("+)", 1);
        bad("?11)", 3);
        bad("???????0000000000000000", 22);
        bad("+12+12+12+12+12+12+12+12", 3);
    }

    private static void tooDeepLines() {
        String seven = "!!!!!!!";
        for (char c : "!+-*<?TO".toCharArray()) {
            bad(seven + c, 7);
            bad(seven + c + "111", 7);
        }
        bad(seven + "D1(1)", 10);
        bad(seven + "D1(D", 10);
        bad(seven + "D1((", 10);
        bad(seven + ")", 7);
        bad("!!!!!!D1(!1)", 9);
        bad("!!!!!!D1(1!1)", 10);
        bad("!!!!!!D1(D1(1", 12);
        bad("+1+1+1+1+1+1+1+12", 14);
        bad("!!!!!!!!!!!!!!!!!!!!!!!!", 7);
    }

    private static void wrongNames() {
        int[] wrong = {-1, 8, 'a', Integer.MIN_VALUE, Integer.MAX_VALUE};
        LazyBuilder x = new LazyBuilder();
        Checks.define(x, 'a', "5");
        x.force(0);
        Checks.typeLine(x, "11");
        for (int name : wrong) {
            CHECKS.due("define(" + name + ")", x.define(name), LazyBuilder.REFUSED);
            CHECKS.due("the line after define(" + name + ")", x.count(4), 2);
            CHECKS.due("the bad place after define(" + name + ")", x.count(5), -1);
            CHECKS.due("undefine(" + name + ")", x.undefine(name), LazyBuilder.REFUSED);
            CHECKS.due("value(0) after these", x.value(0), 5);
        }
        CHECKS.due("failures", x.count(3), 0);
        CHECKS.due("names bound", x.count(6), 1);
    }

    private static void latestBadPlace() {
        LazyBuilder x = new LazyBuilder();
        Checks.define(x, 'a', "+1");
        CHECKS.due("after +1", x.count(5), 2);
        Checks.define(x, 'a', "+11");
        CHECKS.due("after a good line", x.count(5), 2);
        CHECKS.due("define of an empty line", x.define(0), LazyBuilder.SYNTAX);
        CHECKS.due("after an empty line", x.count(5), 0);
        CHECKS.due("what was bound stays", x.count(6), 1);
        CHECKS.due("show of +a4", Checks.shown(x, "+a4"), 6);
    }

    private static void earlierLinesAreGone() {
        String[] longer = {"+12", "D1(111)", "+D1()2", "!!D9(1)"};
        for (String text : longer) {
            for (int length = 0; length < text.length(); length++) {
                LazyBuilder x = new LazyBuilder();
                Checks.define(x, 'a', text);
                String shorter = text.substring(0, length);
                String call = "define of " + shorter + " after " + text;
                CHECKS.due(call, Checks.define(x, 'b', shorter), LazyBuilder.SYNTAX);
                CHECKS.due("bad place by " + call, x.count(5), length);
            }
        }
    }

    private static void valuesAreForgotten() {
        LazyBuilder x = new LazyBuilder();
        Checks.define(x, 'a', "+b1");
        Checks.define(x, 'b', "2");
        Checks.define(x, 'c', "7");
        x.force(0);
        x.force(2);
        CHECKS.due("kept before", x.count(7), 3);
        Checks.define(x, 'h', "11");
        CHECKS.due("kept after SYNTAX", x.count(7), 3);
        Checks.define(x, 'h', "1");
        CHECKS.due("kept after define of another name", x.count(7), 0);
        CHECKS.due("value(0)", x.value(0), LazyBuilder.NONE);
        x.force(0);
        CHECKS.due("kept again", x.count(7), 2);
        CHECKS.due("undefine(7)", x.undefine(7), LazyBuilder.DONE);
        CHECKS.due("kept after undefine", x.count(7), 0);
        x.force(0);
        CHECKS.due("undefine(7) again", x.undefine(7), LazyBuilder.REFUSED);
        CHECKS.due("kept after a refused undefine", x.count(7), 2);
    }

    private static void undefining() {
        LazyBuilder x = new LazyBuilder();
        for (char name = 'a'; name <= 'h'; name++) {
            CHECKS.due("define of " + name, Checks.define(x, name, "1"), 1);
            CHECKS.due("names bound", x.count(6), name - 'a' + 1);
        }
        x.type('+');
        for (int name = 0; name < 8; name++) {
            CHECKS.due("undefine(" + name + ")", x.undefine(name), LazyBuilder.DONE);
            CHECKS.due("undefine(" + name + ") again", x.undefine(name), LazyBuilder.REFUSED);
            CHECKS.due("force(" + name + ")", x.force(name), LazyBuilder.UNBOUND);
            CHECKS.due("names bound", x.count(6), 7 - name);
        }
        CHECKS.due("the line", x.count(4), 1);
    }

    private static void rebinding() {
        LazyBuilder x = new LazyBuilder();
        Checks.define(x, 'a', "+++++++01234567");
        Checks.define(x, 'a', "3");
        CHECKS.due("names bound", x.count(6), 1);
        CHECKS.due("show of a", Checks.shown(x, "a"), 3);
        Checks.define(x, 'b', "a");
        Checks.define(x, 'a', "*34");
        CHECKS.due("show of b, bound to what a is now", Checks.shown(x, "b"), 12);
        x.undefine(0);
        CHECKS.due("show of b without a", Checks.shown(x, "b"), LazyBuilder.UNBOUND);
        CHECKS.due("defining a again", Checks.define(x, 'a', "8"), 1);
        CHECKS.due("show of b", Checks.shown(x, "b"), 8);
    }
}
