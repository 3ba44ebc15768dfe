/** What a good line is: every short line, also behind some beginnings, held against the model's. */
final class EveryLineTest {
    private static final String CHARACTERS = "0a+?!D()";
    private static final String[] BEGINNINGS = {"", "!!!!!", "!!!!!D0(", "D0(000", "+++++D0()0"};
    private static final int MOST = 5;

    private final Checks checks = new Checks();
    private LazyBuilder program = new LazyBuilder();
    private int used;

    public static void main(String[] args) {
        EveryLineTest test = new EveryLineTest();
        for (String beginning : BEGINNINGS) {
            test.lines(beginning, MOST);
        }
        test.checks.end();
    }

    private void lines(String text, int more) {
        line(text);
        for (int i = 0; i < CHARACTERS.length() && more > 0; i++) {
            lines(text + CHARACTERS.charAt(i), more - 1);
        }
    }

    private void line(String text) {
        used++;
        if (used % 100 == 0) {
            program = new LazyBuilder();
        }
        int want = Model.badPlaceOf(text);
        int answer = Checks.define(program, 'a', text);
        checks.due("good is " + text, answer > 0 == want < 0);
        if (want >= 0) {
            checks.due("the bad place of " + text, program.count(5), want);
        }
    }
}
