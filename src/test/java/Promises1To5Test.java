/** The sentences of the promises 1 to 5: a new object, type, types, define and undefine. */
final class Promises1To5Test {
    private static final Sentences S = new Sentences();
    private static final int REFUSED = LazyBuilder.REFUSED;
    private static final int[] NO_NAMES = {Integer.MIN_VALUE, -1, 8, 9, 'a', Integer.MAX_VALUE};

    public static void main(String[] args) {
        S.under("Promise 1: A new object");
        S.says("Nothing is bound, THE STORE is empty.", Promises1To5Test::newObject);
        type();
        types();
        define();
        undefine();
        S.end();
    }

    private static void type() {
        S.under("Promise 2: type");
        S.says("Adds a character (its code) to the line.", Promises1To5Test::addsACharacter);
        S.says("Not one of the line's: REFUSED", Promises1To5Test::strangeCharacters);
        S.says("else, it has 24: FULL.", Promises1To5Test::fullLine);
        S.says("Answers its length.", Promises1To5Test::lengths);
    }

    private static void types() {
        S.under("Promise 3: types");
        S.says("The eight bytes of the number, highest first", Promises1To5Test::highestFirst);
        S.says("those that are 0 left out", Promises1To5Test::zerosLeftOut);
        S.says("at the first that is REFUSED or FULL this stops", Promises1To5Test::stops);
        S.says("those before it stay", Promises1To5Test::thoseBeforeStay);
        S.says("and that answer is given.", Promises1To5Test::thatAnswer);
        S.says("Answers the line's length.", Promises1To5Test::lengthBehindTypes);
    }

    private static void define() {
        S.under("Promise 4: define");
        S.says("Binds the name (0 .. 7 for a .. h, else REFUSED) to the line's EXPRESSION",
                Promises1To5Test::binds);
        S.says("the line is empty afterwards (but if REFUSED).", Promises1To5Test::emptyAfterDefine);
        S.says("Not a good line: SYNTAX", Promises1To5Test::syntax);
        S.says("the latest bad place becomes its BAD PLACE.", Promises1To5Test::latestBadPlace);
        S.says("Else all VALUES kept, of all names, are forgotten.", Promises1To5Test::defineForgets);
        S.says("Answers the DEPTH.", Promises1To5Test::answersDepth);
    }

    private static void undefine() {
        S.under("Promise 5: undefine");
        S.says("The name is bound no more", Promises1To5Test::boundNoMore);
        S.says("all VALUES kept are forgotten.", Promises1To5Test::undefineForgets);
        S.says("Not 0 .. 7 or not bound: REFUSED.", Promises1To5Test::undefineRefused);
        S.says("DONE.", Promises1To5Test::undefineDone);
    }

    private static void newObject() {
        LazyBuilder x = new LazyBuilder();
        S.due("names bound", x.count(6), 0);
        S.due("plans", x.count(0), 0);
        for (int name = 0; name < 8; name++) {
            S.due("undefine(" + name + ")", x.undefine(name), REFUSED);
            S.due("value(" + name + ")", x.value(name), LazyBuilder.NONE);
        }
        for (int plan = -1; plan <= 31; plan++) {
            S.due("plan(" + plan + ", 0)", x.plan(plan, 0), REFUSED);
        }
        S.due("collect", x.collect(), 0);
        for (int name = 0; name < 8; name++) {
            S.due("force(" + name + ")", x.force(name), LazyBuilder.UNBOUND);
        }
        LazyBuilder y = new LazyBuilder();
        Checks.show(y, "OD1(2)");
        Checks.define(y, 'a', "1");
        LazyBuilder z = new LazyBuilder();
        S.due("names bound beside another", z.count(6), 0);
        S.due("plans beside another", z.count(0), 0);
    }

    private static void addsACharacter() {
        LazyBuilder x = new LazyBuilder();
        x.type('-');
        x.type('9');
        x.type('4');
        S.due("show of -94", x.show(), LazyBuilder.DONE);
        S.due("in the order of typing", x.value(8), 5);
    }

    private static void strangeCharacters() {
        LazyBuilder x = new LazyBuilder();
        int[] strange = {Integer.MIN_VALUE, -208, -1, 0, 1, ' ', '/', ':', '`', 'i', 'A', 'C', 'E', 'N', 'P',
            'S', 'U', '\'', ',', '.', '=', '>', '@', '"', '[', '~', 127, 255, 256 + '0', 65536 + '0',
            Integer.MAX_VALUE};
        for (int c : strange) {
            S.due("type(" + c + ")", x.type(c), REFUSED);
            S.due("the length behind type(" + c + ")", x.count(4), 0);
        }
    }

    private static LazyBuilder withLine(int length) {
        LazyBuilder x = new LazyBuilder();
        for (int i = 0; i < length; i++) {
            x.type('!');
        }
        return x;
    }

    private static void fullLine() {
        LazyBuilder x = withLine(23);
        S.due("the 24th", x.type('0'), 24);
        S.due("the 25th", x.type('0'), LazyBuilder.FULL);
        S.due("the 25th again", x.type(')'), LazyBuilder.FULL);
        S.due("a strange 25th", x.type('x'), REFUSED);
        S.due("the length", x.count(4), 24);
    }

    private static void lengths() {
        LazyBuilder x = new LazyBuilder();
        for (int i = 1; i <= 24; i++) {
            S.due("character " + i, x.type('0' + i % 10), i);
        }
        x.show();
        S.due("the first of the next line", x.type('0'), 1);
    }

    private static void highestFirst() {
        LazyBuilder x = new LazyBuilder();
        S.due("types of -9-8-7-6", x.types(Checks.packed("-9-8-7-6")), 8);
        x.type('5');
        S.due("show", x.show(), LazyBuilder.DONE);
        S.due("9 - (8 - (7 - (6 - 5)))", x.value(8), 7);
        S.due("a highest byte of 255", x.types(-1L), REFUSED);
        S.due("a highest byte of 128", x.types(Long.MIN_VALUE), REFUSED);
        S.due("a byte of '0' and 128", x.types('0' + 128), REFUSED);
    }

    private static void zerosLeftOut() {
        LazyBuilder x = new LazyBuilder();
        S.due("types(0)", x.types(0), 0);
        S.due("zeros before", x.types('+'), 1);
        S.due("zeros behind", x.types((long) '1' << 56), 2);
        S.due("zeros between", x.types((long) '+' << 48 | (long) '2' << 32 | (long) '3' << 8), 5);
        S.due("show of +1+23", x.show(), LazyBuilder.DONE);
        S.due("what is shown", x.value(8), 6);
        S.due("types(0) of a full line", withLine(24).types(0), 24);
    }

    private static void stops() {
        LazyBuilder x = new LazyBuilder();
        x.types(Checks.packed("+1x2345"));
        S.due("those behind a strange one are not typed", x.count(4), 2);
        x.type('5');
        S.due("show of +15", x.show(), LazyBuilder.DONE);
        S.due("what is shown", x.value(8), 6);
        LazyBuilder y = withLine(24);
        S.due("a strange one behind the 25th is not seen", y.types(Checks.packed("1x")), LazyBuilder.FULL);
        S.due("a strange one at once", y.types(Checks.packed("x1")), REFUSED);
    }

    private static void thoseBeforeStay() {
        LazyBuilder x = new LazyBuilder();
        x.types(Checks.packed("+12x"));
        S.due("three stay", x.count(4), 3);
        S.due("show of them", x.show(), LazyBuilder.DONE);
        S.due("what is shown", x.value(8), 3);
        LazyBuilder y = withLine(17);
        y.types(Checks.packed("12345678"));
        S.due("seven of eight stay", y.count(4), 24);
    }

    private static void thatAnswer() {
        S.due("a strange last one", new LazyBuilder().types(Checks.packed("1234567x")), REFUSED);
        S.due("a strange first one", new LazyBuilder().types(Checks.packed("x1234567")), REFUSED);
        S.due("eight where eight fit", withLine(16).types(Checks.packed("12345678")), 24);
        S.due("eight where seven fit", withLine(17).types(Checks.packed("12345678")), LazyBuilder.FULL);
        S.due("one where none fits", withLine(24).types('1'), LazyBuilder.FULL);
        S.due("a strange one where none fits", withLine(24).types('x'), REFUSED);
    }

    private static void lengthBehindTypes() {
        LazyBuilder x = new LazyBuilder();
        S.due("eight", x.types(Checks.packed("12345678")), 8);
        S.due("sixteen", x.types(Checks.packed("12345678")), 16);
        S.due("none more", x.types(0), 16);
        S.due("one more", x.types('1'), 17);
        S.due("24", x.types(Checks.packed("1234567")), 24);
    }

    private static void binds() {
        LazyBuilder x = new LazyBuilder();
        for (int name = 0; name < 8; name++) {
            Checks.typeLine(x, "+1" + name);
            S.due("define(" + name + ")", x.define(name), 2);
        }
        for (int name = 0; name < 8; name++) {
            S.due("show", Checks.shown(x, "" + (char) ('a' + name)), name + 1);
        }
        Checks.typeLine(x, "99");
        for (int name : NO_NAMES) {
            S.due("define(" + name + ")", x.define(name), REFUSED);
            S.due("the bad place", x.count(5), -1);
        }
        S.due("define of an empty line by a wrong name", new LazyBuilder().define(8), REFUSED);
        LazyBuilder y = new LazyBuilder();
        Checks.define(y, 'a', "+++++++01234567");
        Checks.define(y, 'a', "3");
        S.due("the later line is what it is bound to", Checks.shown(y, "a"), 3);
        S.due("names bound", y.count(6), 1);
    }

    private static void emptyAfterDefine() {
        LazyBuilder x = new LazyBuilder();
        Checks.typeLine(x, "+12");
        S.due("define(8)", x.define(8), REFUSED);
        S.due("the length then", x.count(4), 3);
        S.due("define(0)", x.define(0), 2);
        S.due("the length after it", x.count(4), 0);
        Checks.typeLine(x, "11");
        S.due("define(-1) of a bad line", x.define(-1), REFUSED);
        S.due("the length then", x.count(4), 2);
        S.due("define(0) of a bad line", x.define(0), LazyBuilder.SYNTAX);
        S.due("the length after SYNTAX", x.count(4), 0);
        S.due("define(0) of the empty line", x.define(0), LazyBuilder.SYNTAX);
    }

    private static void syntax() {
        LazyBuilder x = new LazyBuilder();
        Checks.define(x, 'a', "5");
        x.force(0);
        for (String text : new String[] {"", "+1", "11", "(", "D0(11111)", "!!!!!!!!1"}) {
            S.due("define of " + text, Checks.define(x, 'a', text), LazyBuilder.SYNTAX);
            S.due("what a is bound to stays", Checks.shown(x, "a"), 5);
            S.due("its VALUE stays", x.value(0), 5);
            S.due("another stays unbound", Checks.define(x, 'b', text), LazyBuilder.SYNTAX);
            S.due("names bound", x.count(6), 1);
        }
    }

    private static void latestBadPlace() {
        LazyBuilder x = new LazyBuilder();
        S.due("at first", x.count(5), -1);
        Checks.define(x, 'a', "+12)");
        S.due("behind +12)", x.count(5), 3);
        Checks.define(x, 'a', "+12");
        S.due("behind a good line", x.count(5), 3);
        Checks.define(x, 'a', "");
        S.due("behind an empty line", x.count(5), 0);
        Checks.show(x, "T1");
        S.due("behind show of T1", x.count(5), 2);
        Checks.define(x, 'a', "D0(D0(D0(D0(D0(D0(D0(D0(");
        S.due("behind 24 characters", x.count(5), 24);
    }

    private static LazyBuilder withKept() {
        LazyBuilder x = new LazyBuilder();
        for (char name = 'a'; name < 'h'; name++) {
            Checks.define(x, name, "" + (name - 'a'));
        }
        for (int name = 0; name < 7; name++) {
            x.force(name);
        }
        Checks.show(x, "9");
        S.due("kept", x.count(7), 7);
        return x;
    }

    private static void nothingKept(LazyBuilder x) {
        S.due("kept", x.count(7), 0);
        for (int name = 0; name < 8; name++) {
            S.due("value(" + name + ")", x.value(name), LazyBuilder.NONE);
        }
        S.due("what was SHOWN stays", x.value(8), 9);
    }

    private static void defineForgets() {
        LazyBuilder x = withKept();
        x.define(8);
        S.due("kept behind REFUSED", x.count(7), 7);
        x.define(7);
        S.due("kept behind SYNTAX", x.count(7), 7);
        Checks.define(x, 'h', "1");
        nothingKept(x);
        LazyBuilder y = withKept();
        Checks.define(y, 'a', "0");
        nothingKept(y);
    }

    private static void answersDepth() {
        LazyBuilder x = new LazyBuilder();
        for (int depth = 1; depth <= 8; depth++) {
            S.due("depth " + depth, Checks.define(x, 'a', "!".repeat(depth - 1) + "1"), depth);
        }
        S.due("depth 9", Checks.define(x, 'a', "!".repeat(8) + "1"), LazyBuilder.SYNTAX);
        S.due("a D without INPUTS", Checks.define(x, 'a', "D0()"), 1);
    }

    private static void boundNoMore() {
        LazyBuilder x = new LazyBuilder();
        Checks.define(x, 'a', "1");
        Checks.define(x, 'h', "+a2");
        x.undefine(0);
        S.due("force(0)", x.force(0), LazyBuilder.UNBOUND);
        S.due("force of what needs it", x.force(7), LazyBuilder.UNBOUND);
        S.due("names bound", x.count(6), 1);
        Checks.define(x, 'a', "5");
        S.due("bound anew", Checks.shown(x, "h"), 7);
    }

    private static void undefineForgets() {
        LazyBuilder x = withKept();
        x.undefine(7);
        x.undefine(8);
        S.due("kept behind REFUSED", x.count(7), 7);
        x.undefine(3);
        nothingKept(x);
        S.due("names bound", x.count(6), 6);
    }

    private static void undefineRefused() {
        LazyBuilder x = new LazyBuilder();
        Checks.define(x, 'a', "1");
        for (int name : NO_NAMES) {
            S.due("undefine(" + name + ")", x.undefine(name), REFUSED);
        }
        for (int name = 1; name < 8; name++) {
            S.due("undefine(" + name + "), not bound", x.undefine(name), REFUSED);
        }
        S.due("names bound", x.count(6), 1);
        x.undefine(0);
        S.due("undefine(0) twice", x.undefine(0), REFUSED);
    }

    private static void undefineDone() {
        LazyBuilder x = new LazyBuilder();
        for (int name = 0; name < 8; name++) {
            Checks.define(x, (char) ('a' + name), "1");
            S.due("undefine(" + name + ")", x.undefine(name), LazyBuilder.DONE);
        }
    }
}
