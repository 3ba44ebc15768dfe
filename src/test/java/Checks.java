/** Counts the answers that are as due, tells those that are not, and types whole lines. */
final class Checks {
    private int right;
    private int wrong;

    void due(String call, long got, long want) {
        if (got == want) {
            right++;
        } else {
            wrong++;
            System.out.println(call + " answered " + got + ", due is " + want);
        }
    }

    void due(String call, boolean holds) {
        due(call, holds ? 1 : 0, 1);
    }

    /** Ends the test: exit code 1 if an answer was wrong, or if there was none at all. */
    void end() {
        System.out.println(right + " answers as due, " + wrong + " not");
        if (wrong != 0 || right == 0) {
            System.exit(1);
        }
    }

    static long packed(String upToEight) {
        long eight = 0;
        for (char c : upToEight.toCharArray()) {
            eight = eight << 8 | c;
        }
        return eight;
    }

    static void typeLine(LazyBuilder x, String text) {
        for (int at = 0; at < text.length(); at += 8) {
            x.types(packed(text.substring(at, Math.min(at + 8, text.length()))));
        }
    }

    static int define(LazyBuilder x, char name, String text) {
        typeLine(x, text);
        return x.define(name - 'a');
    }

    static int show(LazyBuilder x, String text) {
        typeLine(x, text);
        return x.show();
    }

    /** What show shows, or its answer if that is a failure. */
    static long shown(LazyBuilder x, String text) {
        int answer = show(x, text);
        return answer == LazyBuilder.DONE ? x.value(8) : answer;
    }

    static void fail(LazyBuilder x, int times) {
        for (int i = 0; i < times; i++) {
            show(x, "!0");
        }
    }
}
