import java.util.ArrayList;
import java.util.List;
import java.util.Map;
import java.util.Random;
import java.util.TreeMap;

/** All promises: random runs of 512 calls, each answer held against the model's. */
final class RandomRunsTest {
    private static final int RUNS = 4000;
    private static final int CALLS = 512;
    private static final String CHARACTERS = "0123456789abcdefgh+-*<?!TDO()";
    private static final String[] ANSWERS = {"DONE", "REFUSED", "FULL", "SYNTAX", "UNBOUND", "TYPE",
        "ABORT", "BROKEN", "LOOP", "CRAMPED", "LONG", "CLOSED"};
    private static final int[] EDGES = {Integer.MIN_VALUE, -1, 0, 1, 7, 8, 9, 10, 30, 31, Integer.MAX_VALUE};

    /** Runs differ in how lines fail, as a run that closes early shows little more. */
    private enum Mood { CALM, WILD, TRYING }

    private final Random random;
    private final LazyBuilder program = new LazyBuilder();
    private final Model model = new Model();
    private final List<String> calls = new ArrayList<>();
    private final Map<String, Integer> seen;
    private final Mood mood;
    private boolean wrong;

    private RandomRunsTest(int run, Map<String, Integer> seen) {
        random = new Random(run * 0x9E3779B97F4A7C15L);
        mood = Mood.values()[run % 3];
        this.seen = seen;
    }

    public static void main(String[] args) {
        Map<String, Integer> seen = new TreeMap<>();
        Checks checks = new Checks();
        for (int run = 0; run < RUNS; run++) {
            checks.due("random run " + run, new RandomRunsTest(run, seen).isAsDue());
        }
        System.out.println(seen);
        String[] must = {"define REFUSED", "define SYNTAX", "define DONE", "show SYNTAX", "show UNBOUND",
            "show TYPE", "show ABORT", "show BROKEN", "show LOOP", "show CRAMPED", "show LONG",
            "show CLOSED", "show DONE", "force REFUSED", "force LONG", "force CLOSED", "force LOOP",
            "force DONE", "build REFUSED", "build BROKEN", "build CLOSED", "build DONE", "type FULL",
            "type REFUSED", "types FULL", "types REFUSED", "collect DONE"};
        for (String answer : must) {
            checks.due(answer + " was seen", seen.getOrDefault(answer, 0) >= 10);
        }
        checks.end();
    }

    private boolean isAsDue() {
        for (int name = 0; name < 8 && mood == Mood.TRYING; name++) {
            define(name);
        }
        while (calls.size() < CALLS && !wrong) {
            step();
        }
        if (wrong) {
            System.out.println(calls);
        }
        return !wrong;
    }

    private void checkChange(String name, String call, int got, int want) {
        seen.merge(name + " " + ANSWERS[Math.max(0, -got)], 1, Integer::sum);
        check(call, got, want);
    }

    private void check(String call, long got, long want) {
        calls.add(call + " " + got);
        // A step that begins before the last call may go on behind it, where answers are free.
        if (got != want && calls.size() <= CALLS) {
            wrong = true;
            System.out.println(call + " answered " + got + ", due is " + want);
        }
    }

    private void step() {
        switch (random.nextInt(16)) {
            case 0, 1, 2:
                define(random.nextInt(40) == 0 ? edge() : random.nextInt(8));
                break;
            case 3, 4, 5:
                typeLine(lineFor(-1));
                checkChange("show", "show()", program.show(), model.show());
                break;
            case 6, 7:
                int forced = random.nextInt(20) == 0 ? edge() : random.nextInt(8);
                checkChange("force", "force(" + forced + ")", program.force(forced), model.force(forced));
                break;
            case 8, 9:
                changeStore();
                break;
            case 10:
                changeLittle();
                break;
            default:
                ask();
                break;
        }
    }

    private void define(int name) {
        typeLine(lineFor(name));
        checkChange("define", "define(" + name + ")", program.define(name), model.define(name));
    }

    private void changeStore() {
        int plan = plan();
        switch (random.nextInt(8)) {
            case 0:
                int b = random.nextInt(20) == 0 ? edge() : random.nextInt(10);
                int kind = random.nextInt(20) == 0 ? edge() : random.nextInt(mood == Mood.CALM ? 4 : 5);
                checkChange("builder", "builder(" + b + ", " + kind + ")", program.builder(b, kind),
                        model.builder(b, kind));
                break;
            case 1, 2, 3:
                checkChange("build", "build(" + plan + ")", program.build(plan), model.build(plan));
                break;
            case 4, 5:
                boolean on = random.nextBoolean();
                checkChange("root", "root(" + plan + ", " + on + ")", program.root(plan, on),
                        model.root(plan, on));
                break;
            default:
                checkChange("collect", "collect()", program.collect(), model.collect());
                break;
        }
    }

    private void changeLittle() {
        int what = random.nextInt(4);
        if (what == 0) {
            int name = random.nextInt(5) == 0 ? edge() : random.nextInt(8);
            checkChange("undefine", "undefine(" + name + ")", program.undefine(name), model.undefine(name));
        } else if (what == 1) {
            long eight = random.nextBoolean() ? random.nextLong() : random.nextLong() & 0x3f003f3f003f3f3fL;
            checkChange("types", "types(" + eight + ")", program.types(eight), model.types(eight));
        } else {
            int c = random.nextInt(4) == 0 ? random.nextInt(400) - 100 : character();
            checkChange("type", "type(" + c + ")", program.type(c), model.type(c));
        }
    }

    private void ask() {
        int what = random.nextInt(40) == 0 ? edge() : random.nextInt(8);
        switch (random.nextInt(4)) {
            case 0:
                check("count(" + what + ")", program.count(what), model.count(what));
                break;
            case 1:
                int name = random.nextInt(4) == 0 ? 8 : what;
                check("value(" + name + ")", program.value(name), model.value(name));
                break;
            case 2:
                int asked = plan();
                int of = what > 4 ? 3 : what;
                check("plan(" + asked + ", " + of + ")", program.plan(asked, of),
                        model.plan(asked, of));
                break;
            default:
                int plan = plan();
                check("input(" + plan + ", " + what % 5 + ")", program.input(plan, what % 5),
                        model.input(plan, what % 5));
                break;
        }
    }

    private int edge() {
        return EDGES[random.nextInt(EDGES.length)];
    }

    private int plan() {
        return random.nextInt(20) == 0 ? edge() : 1 + random.nextInt(Math.max(1, model.count(0)));
    }

    private char character() {
        return CHARACTERS.charAt(random.nextInt(CHARACTERS.length()));
    }

    private void typeLine(String text) {
        int at = 0;
        while (at < text.length()) {
            int end = Math.min(text.length(), at + (random.nextInt(8) == 0 ? 1 : 8));
            if (end == at + 1 && random.nextBoolean()) {
                char c = text.charAt(at);
                checkChange("type", "type(" + c + ")", program.type(c), model.type(c));
            } else {
                long eight = Checks.packed(text.substring(at, end));
                checkChange("types", "types(" + text.substring(at, end) + ")", program.types(eight),
                        model.types(eight));
            }
            at = end;
        }
    }

    private String lineFor(int name) {
        if (mood == Mood.TRYING && random.nextInt(4) > 0) {
            return name < 5 ? triesOfNamesAbove(name) : "!+1+2+3+4+" + leaf() + "+56";
        }
        return mood == Mood.CALM ? goodLine() : anyLine();
    }

    private String anyLine() {
        StringBuilder text = new StringBuilder(goodLine());
        switch (random.nextInt(12)) {
            case 0:
                text.setLength(random.nextInt(text.length() + 1));
                break;
            case 1:
                text.insert(random.nextInt(text.length() + 1), character());
                break;
            case 2:
                text.setCharAt(random.nextInt(text.length()), character());
                break;
            case 3:
                text.setLength(0);
                for (int i = random.nextInt(30); i > 0; i--) {
                    text.append(character());
                }
                break;
            default:
                break;
        }
        return text.toString();
    }

    private String goodLine() {
        for (int i = 0; i < 100; i++) {
            StringBuilder text = new StringBuilder();
            grow(text, 1, 2 + random.nextInt(7));
            if (text.length() <= 24) {
                return text.toString();
            }
        }
        return "0";
    }

    /** A line that works names out again and again if they fail, which makes work LONG. */
    private String triesOfNamesAbove(int name) {
        StringBuilder text = new StringBuilder();
        int lowest = Math.max(0, name + 1);
        for (int i = 1 + random.nextInt(6); i > 0; i--) {
            text.append('T').append((char) ('a' + lowest + random.nextInt(8 - lowest)));
        }
        return text.append(random.nextInt(3) > 0 ? "!" : "").append(leaf()).toString();
    }

    private char name() {
        return (char) ('a' + random.nextInt(8));
    }

    private char leaf() {
        return random.nextInt(3) == 0 ? name() : (char) ('0' + random.nextInt(10));
    }

    private void grow(StringBuilder text, int level, int most) {
        if (level >= most || text.length() > 24 || random.nextInt(6) == 0) {
            text.append(leaf());
            return;
        }
        String signs = mood == Mood.CALM ? "++-**<?TDDDDDDO" : "+-*<?!TTDDDO";
        char sign = signs.charAt(random.nextInt(signs.length()));
        text.append(sign);
        if (sign == 'D') {
            text.append(random.nextInt(10)).append('(');
            for (int i = random.nextInt(5); i > 0; i--) {
                grow(text, level + 1, most);
            }
            text.append(')');
        } else if (sign == 'O' && random.nextInt(8) > 0) {
            text.append("D").append(random.nextInt(10)).append('(');
            for (int i = random.nextInt(4); i > 0; i--) {
                grow(text, level + 2, most);
            }
            text.append(')');
        } else {
            int parts = sign == '?' ? 3 : sign == 'O' || sign == '!' ? 1 : 2;
            for (int i = 0; i < parts; i++) {
                grow(text, level + 1, most);
            }
        }
    }
}
