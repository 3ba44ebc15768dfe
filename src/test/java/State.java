/** What an object tells of itself, as texts that can be held against each other. */
final class State {
    private State() { }

    /** All that can be asked. */
    static String of(LazyBuilder x) {
        return "line " + x.count(4) + " bad " + x.count(5) + " " + withoutLine(x);
    }

    /** All but the line's length and the latest bad place, which SYNTAX changes. */
    static String withoutLine(LazyBuilder x) {
        return "steps " + x.count(2) + " failures " + x.count(3) + " " + lasting(x);
    }

    /** What a call that fails before it has done anything leaves as it was. */
    static String lasting(LazyBuilder x) {
        StringBuilder all = new StringBuilder("counts");
        for (int what : new int[] {0, 1, 6, 7}) {
            all.append(' ').append(x.count(what));
        }
        all.append(" values");
        for (int name = 0; name <= 8; name++) {
            all.append(' ').append(x.value(name));
        }
        for (int plan = 1; plan <= x.count(0); plan++) {
            all.append(" plan");
            for (int what = 0; what < 5; what++) {
                all.append(' ').append(x.plan(plan, what));
            }
            for (int i = 0; i < x.plan(plan, 1); i++) {
                all.append(' ').append(x.input(plan, i));
            }
        }
        return all.toString();
    }

    /** What can't be asked, the line, the names' EXPRESSIONS and the KINDS, by what comes of it. */
    static String byUse(LazyBuilder x) {
        StringBuilder all = new StringBuilder("show " + x.show() + " " + x.value(8));
        for (int name = 0; name < 8; name++) {
            all.append(" force ").append(x.force(name)).append(' ').append(x.value(name));
        }
        for (int plan = 1; plan <= x.count(0); plan++) {
            x.root(plan, false);
        }
        x.collect();
        for (int plan = 1; plan <= x.count(0); plan++) {
            all.append(" build ").append(x.build(plan)).append(' ').append(x.plan(plan, 3));
        }
        return all.toString();
    }
}
