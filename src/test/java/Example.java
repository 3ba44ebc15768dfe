/** The example of README.md. */
public final class Example {
    public static void main(String[] args) {
        LazyBuilder x = new LazyBuilder();
        x.builder(1, 1);                  // builder 1 makes products; all others make sums

        write(x, "D1(2b)");
        tell("define a", x.define(0));    // its depth: b stands in D's list
        write(x, "+13");
        tell("define b", x.define(1));
        tell("plans", x.count(0));        // nothing is worked out yet

        write(x, "+OaOa");
        tell("show", x.show());           // DONE: a is worked out, and its plan built, once
        tell("shown", x.value(8));
        tell("kept for a", x.value(0));   // PLAN + 1: plan 1
        tell("kept for b", x.value(1));
        tell("result", x.plan(1, 3));
        tell("builds", x.count(1));

        write(x, "+1)2");
        tell("bad line", x.show());       // SYNTAX; the line is empty now
        tell("bad place", x.count(5));    // where the ) stands
        write(x, "T+a19");
        tell("show", x.show());           // a is a plan: TYPE, which T makes good with 9
        tell("shown", x.value(8));
        tell("failures", x.count(3));
    }

    private static void write(LazyBuilder x, String text) {
        for (char c : text.toCharArray()) {
            x.type(c);
        }
    }

    private static void tell(String what, long answer) {
        System.out.println(what + ": " + answer);
    }
}
