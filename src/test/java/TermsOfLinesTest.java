/** Terms: the sentences on names, the line, EXPRESSIONS, their DEPTH and the BAD PLACE. */
final class TermsOfLinesTest {
    private static final Sentences S = new Sentences();
    private static final String CHARACTERS = "0123456789abcdefgh+-*<?!TDO()";
    private static final String SEVEN = "!!!!!!!";

    public static void main(String[] args) {
        S.under("Terms");
        S.says("NAMES are a .. h, each bound to an EXPRESSION or not; none at first.",
                TermsOfLinesTest::namesFromAToH);
        S.says("THE LINE is a text of at most 24 characters, empty at first",
                TermsOfLinesTest::lineOf24);
        S.says("of the characters 0 .. 9, a .. h and + - * < ? ! T D O ( ).",
                TermsOfLinesTest::charactersAndTheirNeighbours);
        expressions();
        S.says("Its DEPTH is 1, or one more than the greatest of those in it",
                TermsOfLinesTest::depths);
        S.says("it must not be above 8.", TermsOfLinesTest::depthOf8);
        S.says("A good LINE is one EXPRESSION and nothing more.", TermsOfLinesTest::oneAndNothingMore);
        badPlaces();
        S.end();
    }

    private static void expressions() {
        S.says("a digit; a name;", TermsOfLinesTest::leaves);
        S.says("+ - * or < and two EXPRESSIONS;", () -> takesTwo("+-*<"));
        S.says("? and three;", TermsOfLinesTest::takesThree);
        S.says("T and two;", () -> takesTwo("T"));
        S.says("! or O and one;", TermsOfLinesTest::takesOne);
        S.says("D, a digit, (, none to four EXPRESSIONS, ).", TermsOfLinesTest::takesNoneToFour);
    }

    private static void badPlaces() {
        S.says("the number (from 0) of the first character with which no good line",
                TermsOfLinesTest::firstBadCharacter);
        S.says("no good line, of any length, begins up to and with it",
                TermsOfLinesTest::beginningsOfLongerLines);
        S.says("or the line's length if there is none.", TermsOfLinesTest::unfinishedLines);
        S.says("One that needs an EXPRESSION in it where that would have a DEPTH below it too many",
                TermsOfLinesTest::signsTooDeep);
        S.says("a fifth one in D's list", TermsOfLinesTest::fifthInList);
        S.says("or a character behind a whole EXPRESSION, is such a character.",
                TermsOfLinesTest::behindAWholeOne);
    }

    private static void good(String text, int depth) {
        LazyBuilder x = new LazyBuilder();
        S.due("define of " + text, Checks.define(x, 'h', text), depth);
        S.due("the bad place after " + text, x.count(5), -1);
    }

    private static void bad(String text, int place) {
        LazyBuilder x = new LazyBuilder();
        S.due("define of " + text, Checks.define(x, 'h', text), LazyBuilder.SYNTAX);
        S.due("the bad place by define of " + text, x.count(5), place);
        LazyBuilder y = new LazyBuilder();
        S.due("show of " + text, Checks.show(y, text), LazyBuilder.SYNTAX);
        S.due("the bad place by show of " + text, y.count(5), place);
    }

    private static void namesFromAToH() {
        LazyBuilder x = new LazyBuilder();
        S.due("names bound at first", x.count(6), 0);
        for (char name = 'a'; name <= 'h'; name++) {
            S.due("show of " + name + " at first", Checks.show(x, "" + name), LazyBuilder.UNBOUND);
        }
        for (int i = 0; i < 8; i++) {
            Checks.define(x, (char) ('a' + i), "" + (i + 1));
            S.due("names bound", x.count(6), i + 1);
        }
        for (int i = 0; i < 8; i++) {
            S.due("show of name " + i, Checks.shown(x, "" + (char) ('a' + i)), i + 1);
        }
        S.due("the one before a", x.type('a' - 1), LazyBuilder.REFUSED);
        S.due("the one behind h", x.type('i'), LazyBuilder.REFUSED);
    }

    private static void lineOf24() {
        LazyBuilder x = new LazyBuilder();
        S.due("the length at first", x.count(4), 0);
        for (int i = 1; i <= 24; i++) {
            S.due("character " + i, x.type('('), i);
        }
        S.due("character 25", x.type('('), LazyBuilder.FULL);
        S.due("the length then", x.count(4), 24);
        good("D0(D0(D0(D0(D0(D0())))))", 6);
        LazyBuilder y = new LazyBuilder();
        S.due("show of 24 characters", Checks.shown(y, "OD0(D0(1234)D0(1234)+12)"), 23);
    }

    private static void charactersAndTheirNeighbours() {
        for (int c = -2; c < 400; c++) {
            boolean belongs = c > 0 && CHARACTERS.indexOf(c) >= 0;
            S.due("type(" + c + ")", new LazyBuilder().type(c), belongs ? 1 : LazyBuilder.REFUSED);
        }
    }

    private static void leaves() {
        for (char c : "0123456789abcdefgh".toCharArray()) {
            good("" + c, 1);
            bad(c + "1", 1);
        }
    }

    private static void takesTwo(String signs) {
        for (char sign : signs.toCharArray()) {
            bad("" + sign, 1);
            bad(sign + "1", 2);
            good(sign + "12", 2);
            bad(sign + "123", 3);
        }
    }

    private static void takesThree() {
        bad("?", 1);
        bad("?1", 2);
        bad("?12", 3);
        good("?123", 2);
        bad("?1234", 4);
    }

    private static void takesOne() {
        for (char sign : "!O".toCharArray()) {
            bad("" + sign, 1);
            good(sign + "1", 2);
            bad(sign + "12", 2);
        }
    }

    private static void takesNoneToFour() {
        good("D0()", 1);
        good("D9(1)", 2);
        good("D9(12)", 2);
        good("D9(123)", 2);
        good("D9(1234)", 2);
        bad("D9(12345)", 7);
        bad("D", 1);
        bad("D()", 1);
        bad("Da()", 1);
        bad("D+()", 1);
        bad("D9", 2);
        bad("D9)", 2);
        bad("D99", 2);
        bad("D9(", 3);
        bad("D9(1234", 7);
        bad("D9(1(", 4);
    }

    private static void depths() {
        good("9", 1);
        good("D0()", 1);
        good("!9", 2);
        good("?!!112", 4);
        good("?1!!12", 4);
        good("?12!!1", 4);
        good("+!!12", 4);
        good("+1!!2", 4);
        good("D0(!!1234)", 4);
        good("D0(123!!4)", 4);
        good("D0(D0(D0(D0())))", 4);
        LazyBuilder x = new LazyBuilder();
        Checks.define(x, 'a', SEVEN + "1");
        S.due("a name is 1 deep, whatever it is bound to", Checks.define(x, 'b', "!a"), 2);
    }

    private static void depthOf8() {
        for (char sign : "!O".toCharArray()) {
            String seven = ("" + sign).repeat(7);
            good(seven.substring(1) + "1", 7);
            good(seven + "1", 8);
            bad(seven + sign + "1", 7);
        }
        good("+1+1+1+1+1+1+12", 8);
        bad("+1+1+1+1+1+1+1+12", 14);
        good("+++++++01234567", 8);
        bad("++++++++012345678", 7);
        good("???????000000000000000", 8);
        good(SEVEN + "D1()", 8);
        bad(SEVEN + "D1(1)", 10);
        good(SEVEN.substring(1) + "D1(1)", 8);
        bad(SEVEN.substring(1) + "D1(!1)", 9);
        good(SEVEN.substring(1) + "D1(D2())", 8);
    }

    private static void oneAndNothingMore() {
        bad("", 0);
        good("1", 1);
        bad("11", 1);
        bad("1+", 1);
        good("+11", 2);
        bad("+111", 3);
        bad("D0()D0()", 4);
    }

    private static void firstBadCharacter() {
        bad("(", 0);
        bad(")", 0);
        bad("(((", 0);
        bad("1((", 1);
        bad("+)1", 1);
        bad("D1(+)", 4);
        bad("D1(?1)", 5);
        String good23 = "D0(D0(D0(D0(D0(D0()))))";
        S.due("characters before the last", good23.length(), 23);
        bad(good23 + "(", 23);
        bad(good23.replace('0', 'a') + "(", 1);
    }

    private static void beginningsOfLongerLines() {
        // It needs eight characters more than a line can have.
        String beginning = "D0(D0(D0(D0(D0(D0(D0(D0(";
        S.due("characters", beginning.length(), 24);
        bad(beginning, 24);
        bad("D0(111D0(111D0(111D0(111", 24);
        bad("???????00000000?00000000", 24);
    }

    private static void unfinishedLines() {
        String[] beginnings = {"", "+", "+1", "?12", "T1", "!", "O", "D", "D1", "D1(", "D1(1", "D1(1234",
            "D1(+1", SEVEN, SEVEN + "D", SEVEN + "D1", SEVEN + "D1(", "D0(D0(D0(D0(D0(D0()))))"};
        for (String beginning : beginnings) {
            bad(beginning, beginning.length());
        }
    }

    private static void signsTooDeep() {
        for (char sign : "+-*<?T!O".toCharArray()) {
            bad(SEVEN + sign, 7);
            bad(SEVEN + sign + "123", 7);
            good(SEVEN.substring(1) + sign + "123".substring(0, parts(sign)), 8);
        }
        bad("+1+1+1+1+1+1+1!", 14);
        bad(SEVEN + "D1(1", 10);
        bad(SEVEN + "D1(a", 10);
        bad(SEVEN + "D1(D", 10);
        bad(SEVEN.substring(1) + "D1(1+", 10);
    }

    private static int parts(char sign) {
        return sign == '?' ? 3 : sign == '!' || sign == 'O' ? 1 : 2;
    }

    private static void fifthInList() {
        for (char fifth : "1a+-*<?!TDO(".toCharArray()) {
            bad("D0(1234" + fifth, 7);
        }
        good("D0(1234)", 2);
        bad("D0(D1()D2()D3()D4()D5()", 19);
        bad("D0(1D0(12345))", 11);
        good("D0(D0(1234)D0(1234)56)", 3);
    }

    private static void behindAWholeOne() {
        for (char behind : CHARACTERS.toCharArray()) {
            bad("1" + behind, 1);
            bad("a" + behind, 1);
            bad("+12" + behind, 3);
            bad("D0()" + behind, 4);
            bad(SEVEN + "1" + behind, 8);
        }
    }
}
