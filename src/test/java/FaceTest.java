import java.lang.reflect.Constructor;
import java.lang.reflect.Field;
import java.lang.reflect.Method;
import java.lang.reflect.Modifier;
import java.util.Set;
import java.util.TreeSet;

/** Promise 1, the constants, and the public face as a whole. */
final class FaceTest {
    private static final Checks CHECKS = new Checks();

    public static void main(String[] args) throws Exception {
        newObject();
        constants();
        face();
        twoObjectsAreApart();
        CHECKS.end();
    }

    private static void newObject() {
        LazyBuilder x = new LazyBuilder();
        int[] counts = {0, 0, 0, 0, 0, -1, 0, 0};
        for (int what = 0; what < counts.length; what++) {
            CHECKS.due("new, count(" + what + ")", x.count(what), counts[what]);
        }
        for (int name = 0; name <= 8; name++) {
            CHECKS.due("new, value(" + name + ")", x.value(name), LazyBuilder.NONE);
        }
        for (int name = 0; name < 8; name++) {
            CHECKS.due("new, undefine(" + name + ")", x.undefine(name), LazyBuilder.REFUSED);
        }
        CHECKS.due("new, plan(1, 0)", x.plan(1, 0), LazyBuilder.REFUSED);
        CHECKS.due("new, input(1, 0)", x.input(1, 0), LazyBuilder.NONE);
        CHECKS.due("new, build(1)", x.build(1), LazyBuilder.REFUSED);
        CHECKS.due("new, root(1, true)", x.root(1, true), LazyBuilder.REFUSED);
        CHECKS.due("new, collect()", x.collect(), 0);
        CHECKS.due("new, force(0)", x.force(0), LazyBuilder.UNBOUND);
    }

    private static void constants() throws Exception {
        String[] names = {"DONE", "REFUSED", "FULL", "SYNTAX", "UNBOUND", "TYPE", "ABORT", "BROKEN",
            "LOOP", "CRAMPED", "LONG", "CLOSED"};
        for (int i = 0; i < names.length; i++) {
            CHECKS.due(names[i], LazyBuilder.class.getField(names[i]).getInt(null), -i);
        }
        CHECKS.due("NONE", LazyBuilder.NONE, -1_000_000_000_000L);
        CHECKS.due("PLAN", LazyBuilder.PLAN, 1_000_000_000_000L);
    }

    private static void face() {
        Set<String> want = Set.of("int type(int)", "int types(long)", "int define(int)",
                "int undefine(int)", "int force(int)", "int show()", "long value(int)",
                "int builder(int,int)", "int build(int)", "int root(int,boolean)", "int collect()",
                "long input(int,int)", "int plan(int,int)", "int count(int)");
        Set<String> got = new TreeSet<>();
        for (Method method : LazyBuilder.class.getDeclaredMethods()) {
            if (!Modifier.isPrivate(method.getModifiers())) {
                got.add(method.toString().replace("public ", "").replace("LazyBuilder.", ""));
            }
        }
        CHECKS.due("the methods are " + got, got.equals(want));
        int fields = 0;
        for (Field field : LazyBuilder.class.getDeclaredFields()) {
            if (!Modifier.isPrivate(field.getModifiers())) {
                fields++;
                CHECKS.due(field + " is a constant", Modifier.isStatic(field.getModifiers())
                        && Modifier.isFinal(field.getModifiers()));
            }
        }
        CHECKS.due("constants", fields, 14);
        Constructor<?>[] constructors = LazyBuilder.class.getDeclaredConstructors();
        CHECKS.due("constructors", constructors.length, 1);
        CHECKS.due("parameters of the constructor", constructors[0].getParameterCount(), 0);
        CHECKS.due("the class is final", Modifier.isFinal(LazyBuilder.class.getModifiers()));
    }

    private static void twoObjectsAreApart() {
        LazyBuilder x = new LazyBuilder();
        LazyBuilder y = new LazyBuilder();
        Checks.define(x, 'a', "D1(2)");
        x.force(0);
        x.builder(1, 4);
        x.type('+');
        CHECKS.due("the other's count(0)", y.count(0), 0);
        CHECKS.due("the other's count(4)", y.count(4), 0);
        CHECKS.due("the other's count(6)", y.count(6), 0);
        CHECKS.due("the other's OD1(2)", Checks.shown(y, "OD1(2)"), 2);
    }
}
