/** Promises 2 and 3: type and types. */
final class LineTest {
    private static final Checks CHECKS = new Checks();
    private static final String CHARACTERS = "0123456789abcdefgh+-*<?!TDO()";

    public static void main(String[] args) {
        whichCharacters();
        fullLine();
        eightAtOnce();
        typesStops();
        typesIsTyping();
        CHECKS.end();
    }

    private static void whichCharacters() {
        for (int c = -300; c < 70000; c++) {
            LazyBuilder x = new LazyBuilder();
            boolean belongs = c >= 0 && c < 65536 && CHARACTERS.indexOf((char) c) >= 0;
            CHECKS.due("type(" + c + ")", x.type(c), belongs ? 1 : LazyBuilder.REFUSED);
            CHECKS.due("type(" + c + "), count(4)", x.count(4), belongs ? 1 : 0);
        }
        int[] far = {Integer.MIN_VALUE, Integer.MAX_VALUE, '0' + 256, '0' + 65536, '0' - 256};
        for (int c : far) {
            CHECKS.due("type(" + c + ")", new LazyBuilder().type(c), LazyBuilder.REFUSED);
        }
    }

    private static LazyBuilder withLine(int length) {
        LazyBuilder x = new LazyBuilder();
        for (int i = 1; i <= length; i++) {
            CHECKS.due("type('!')", x.type('!'), i);
        }
        return x;
    }

    private static void fullLine() {
        LazyBuilder x = withLine(24);
        CHECKS.due("the 25th", x.type('0'), LazyBuilder.FULL);
        CHECKS.due("a wrong 25th", x.type('x'), LazyBuilder.REFUSED);
        CHECKS.due("count(4)", x.count(4), 24);
        CHECKS.due("types(0) of a full line", x.types(0), 24);
        CHECKS.due("types of a full line", x.types('0'), LazyBuilder.FULL);
        CHECKS.due("wrong types of a full line", x.types('x'), LazyBuilder.REFUSED);
        CHECKS.due("define of a full line", x.define(0), LazyBuilder.SYNTAX);
        CHECKS.due("type after the line was emptied", x.type('0'), 1);
    }

    private static void eightAtOnce() {
        LazyBuilder x = new LazyBuilder();
        CHECKS.due("types(0)", x.types(0), 0);
        CHECKS.due("types of one", x.types('+'), 1);
        CHECKS.due("types with holes", x.types((long) '1' << 56 | (long) '+' << 24 | '2'), 4);
        CHECKS.due("types of one in front", x.types((long) '3' << 56), 5);
        CHECKS.due("+1+23", x.show(), 0);
        CHECKS.due("+1+23 is 6", x.value(8), 6);
        CHECKS.due("types of eight", x.types(Checks.packed("-9-8-7-6")), 8);
        CHECKS.due("types of one more", x.types('5'), 9);
        CHECKS.due("-9-8-7-65", x.show(), 0);
        CHECKS.due("-9-8-7-65 is 7", x.value(8), 7);
    }

    private static void typesStops() {
        LazyBuilder x = new LazyBuilder();
        CHECKS.due("12x4", x.types(Checks.packed("12x4")), LazyBuilder.REFUSED);
        CHECKS.due("12x4 leaves 12", x.count(4), 2);
        CHECKS.due("a highest byte of 255", x.types(-1L), LazyBuilder.REFUSED);
        CHECKS.due("a byte of 128 + '0'", x.types('0' + 128L), LazyBuilder.REFUSED);
        CHECKS.due("count(4) after these", x.count(4), 2);
        LazyBuilder y = withLine(20);
        CHECKS.due("eight where four fit", y.types(Checks.packed("12345678")), LazyBuilder.FULL);
        CHECKS.due("four of them stay", y.count(4), 24);
        LazyBuilder z = withLine(22);
        CHECKS.due("a wrong one behind the 24th", z.types(Checks.packed("12x4")), LazyBuilder.REFUSED);
        LazyBuilder w = withLine(22);
        CHECKS.due("a wrong one behind the 25th", w.types(Checks.packed("123x")), LazyBuilder.FULL);
        CHECKS.due("failures by typing", w.count(3), 0);
    }

    private static void typesIsTyping() {
        LazyBuilder x = new LazyBuilder();
        Checks.typeLine(x, "D1(2D2(3))");
        CHECKS.due("the length", x.count(4), 10);
        CHECKS.due("the depth", x.define(0), 3);
    }
}
