import java.lang.reflect.Modifier;

/** The public face: each line of it is a sentence of its own. */
final class PublicFaceTest {
    private static final Sentences S = new Sentences();
    private static final String[] CONSTANTS = {"int DONE = 0", "int REFUSED = -1", "int FULL = -2",
        "int SYNTAX = -3", "int UNBOUND = -4", "int TYPE = -5", "int ABORT = -6", "int BROKEN = -7",
        "int LOOP = -8", "int CRAMPED = -9", "int LONG = -10", "int CLOSED = -11",
        "long NONE = -1000000000000L", "long PLAN = 1000000000000L"};
    private static final String[] METHODS = {"int type(int c)", "int types(long eight)",
        "int define(int name)", "int undefine(int name)", "int force(int name)", "int show()",
        "long value(int name)", "int builder(int b, int kind)", "int build(int plan)",
        "int root(int plan, boolean on)", "int collect()", "long input(int plan, int i)",
        "int plan(int plan, int what)", "int count(int what)"};

    public static void main(String[] args) {
        S.under("The public face");
        S.says("public final class LazyBuilder {", PublicFaceTest::finalClass);
        for (String constant : CONSTANTS) {
            S.says("public static final " + constant + ";", () -> hasConstant(constant));
        }
        S.says("public LazyBuilder();", PublicFaceTest::oneConstructor);
        for (String method : METHODS) {
            S.says("public " + method + ";", () -> hasMethod(method));
        }
        S.end();
    }

    private static void finalClass() {
        int modifiers = LazyBuilder.class.getModifiers();
        S.due("it is public and final",
                Modifier.isPublic(modifiers) && Modifier.isFinal(modifiers) ? 1 : 0, 1);
        S.due("its constants", LazyBuilder.class.getFields().length, CONSTANTS.length);
        long own = java.util.Arrays.stream(LazyBuilder.class.getMethods())
                .filter(m -> m.getDeclaringClass() == LazyBuilder.class).count();
        S.due("its methods", own, METHODS.length);
    }

    private static void oneConstructor() {
        S.due("constructors", LazyBuilder.class.getConstructors().length, 1);
        S.due("its parameters", LazyBuilder.class.getConstructors()[0].getParameterCount(), 0);
    }

    private static void hasConstant(String constant) {
        String[] words = constant.split(" ");
        try {
            var field = LazyBuilder.class.getField(words[1]);
            S.same("its type", field.getType().getName(), words[0]);
            S.due("it is static and final",
                    field.getModifiers(), Modifier.PUBLIC | Modifier.STATIC | Modifier.FINAL);
            S.due("its value", field.getLong(null), Long.parseLong(words[3].replace("L", "")));
        } catch (ReflectiveOperationException e) {
            S.due("it is there: " + e, 0, 1);
        }
    }

    private static void hasMethod(String method) {
        String withoutNames = method.replaceAll("(int|long|boolean) \\w+([,)])", "$1$2").replace(", ", ",");
        boolean found = java.util.Arrays.stream(LazyBuilder.class.getMethods())
                .anyMatch(m -> m.toString().equals("public " + withoutNames.replace(" ", " LazyBuilder.")));
        S.due("it is there as " + withoutNames, found ? 1 : 0, 1);
    }
}
