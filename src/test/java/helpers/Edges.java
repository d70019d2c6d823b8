import java.lang.reflect.InvocationTargetException;
import java.lang.reflect.Method;
import java.lang.reflect.Modifier;
import java.util.Arrays;
import java.util.Comparator;
import java.util.function.Supplier;
import java.util.function.ToLongFunction;

/**
 * What tests of boundary cases share. Each boundary that the document names has a method of its own, which tells its
 * sentence first, then asks on each side of the boundary.
 */
class Edges {
    /** Numbers that are no farm, moment, bit, wire, tray, place or the like, whatever the line. */
    static final int[] WRONG = {Integer.MIN_VALUE, -1, Integer.MAX_VALUE};

    private static final String LIVED = Scene.all(Scene.lived());
    private static final String LIVED_REST = Scene.rest(Scene.lived());
    private static boolean named;

    /** Names the sentence that the calls from now on are of; the document must say it so. */
    static void sentence(String section, String words) {
        named = true;
        Check.under(section + ": " + words + ": ");
        Check.holds("the document says so", Doc.says(section, words));
    }

    static void due(String call, long got, long want) {
        Check.due(call, got, want);
    }

    /** A call that is refused in the middle of an object's life: it answers a code and changes nothing. */
    static void refused(String call, ToLongFunction<PartyLine> asked, long code) {
        unchanged(call, asked, code);
    }

    /** A call that changes nothing, whatever it answers. */
    static void unchanged(String call, ToLongFunction<PartyLine> asked, long answer) {
        PartyLine x = Scene.lived();
        due(call, asked.applyAsLong(x), answer);
        Check.holds(call + " changes nothing", Scene.all(x).equals(LIVED));
    }

    /** The same behind calls that make another scene. */
    static void refusedIn(Supplier<PartyLine> scene, String call, ToLongFunction<PartyLine> asked, long code) {
        PartyLine x = scene.get();
        due(call, asked.applyAsLong(x), code);
        Check.holds(call + " changes nothing", Scene.all(x).equals(Scene.all(scene.get())));
    }

    /** The scene of Scene.lived() with other numbers in tray 1. */
    static Supplier<PartyLine> withTray(long... numbers) {
        return () -> {
            PartyLine x = Scene.lived();
            Check.lay(x, 1, 3, numbers);
            return x;
        };
    }

    static long[] times(int n, long v) {
        long[] answer = new long[n];
        Arrays.fill(answer, v);
        return answer;
    }

    /** A fine text on a new object. */
    static PartyLine fine(String text, int lines) {
        PartyLine x = new PartyLine();
        due("line of " + text, Check.line(x, text), lines);
        due("no fault in " + text, x.fault(0), 0);
        due("nor a place", x.fault(1), -1);
        return x;
    }

    /** A text whose fault is where ^ stands. */
    static void faulty(int kind, String marked) {
        faultyAt(kind, marked.indexOf('^'), marked.replace("^", ""));
    }

    /** A text with a fault: the answer, the kind, the place, and that all but the tape stays. */
    static void faultyAt(int kind, int place, String text) {
        PartyLine x = Scene.withoutTape();
        due("line of " + text, Check.line(x, text), -30 - kind);
        due("the kind of its fault in " + text, x.fault(0), kind);
        due("the place of its fault in " + text, x.fault(1), place);
        due("the tape behind " + text, x.count(9), 0);
        Check.holds("all stays behind " + text, Scene.rest(x).equals(LIVED_REST));
    }

    /** Runs all tests of a class: its methods that neither take nor answer anything. */
    static void runAll(Class<?> tests) throws Exception {
        Method[] methods = tests.getDeclaredMethods();
        Arrays.sort(methods, Comparator.comparing(Method::getName));
        for (Method method : methods) {
            if (method.getParameterCount() == 0 && method.getReturnType() == void.class && Modifier.isStatic(method.getModifiers())) {
                run(method);
            }
        }
        Check.under("");
        Check.end();
    }

    private static void run(Method method) throws Exception {
        named = false;
        Check.under(method.getName() + ": ");
        method.setAccessible(true);
        try {
            method.invoke(null);
        } catch (InvocationTargetException e) {
            throw new IllegalStateException(method.getName(), e.getCause());
        }
        Check.holds("it names its sentence", named);
    }
}
