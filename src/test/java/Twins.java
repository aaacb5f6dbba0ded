import java.util.LinkedHashMap;
import java.util.Map;

/**
 * Two objects with the same calls behind them, of which one has a call more that must change nothing.
 * Then both are looked at in every way that the face has. As looking changes an object too, and takes
 * calls, each look has twins of its own.
 */
final class Twins {
    interface Calls {
        void on(IdlCaller x);
    }

    private interface Look {
        String at(IdlCaller x);
    }

    private static final int NONE = IdlCaller.NONE;
    private static final Map<String, Look> LOOKS = looks();

    private Twins() {
    }

    /** What throws changes nothing. */
    static void unchanged(String what, Calls before, Calls call) {
        unchangedButPlace(what, placeAfter(before, x -> { }), before, call);
    }

    /** What is refused changes nothing but place. */
    static void unchangedButPlace(String what, int place, Calls before, Calls call) {
        Check.due(what + ": place", placeAfter(before, call), place);
        for (Map.Entry<String, Look> look : LOOKS.entrySet()) {
            IdlCaller plain = new IdlCaller();
            before.on(plain);
            IdlCaller called = new IdlCaller();
            before.on(called);
            call.on(called);
            Check.dueText(what + ": " + look.getKey(), look.getValue().at(called), look.getValue().at(plain));
        }
    }

    private static int placeAfter(Calls before, Calls call) {
        IdlCaller x = new IdlCaller();
        before.on(x);
        call.on(x);
        return x.place();
    }

    /** A new object. */
    static void fresh(IdlCaller x) {
        Check.due("FORMS", x.operation(0, 0), 0);
    }

    /** All is told: a LINE that is a FORM, six FORMS and fewer, VALUES of every sort, places converted. */
    static void told(IdlCaller x) {
        for (String form : new String[] {"a()", "a([E]octet)", "a(string)", "a(list<any>)",
                "a(any,enum(on,off),[E]long)", "a(any,enum(on,off),string?)", "b(optional long,any...)", "c(long?)",
                "c(boolean,any)", "f(double)"}) {
            Check.define(x, form);
        }
        Check.due("FORMS of a", x.operation(0, 0), 6);
        Check.tellList(x, 0, 1.0, Expect.UNDEFINED, null, "x", true);
        Check.tell(x, 1, "on");
        x.number(2, 2.5);
        x.simple(4, 1);
        x.simple(5, 3);
        x.simple(6, 4);
        Check.tell(x, 7, "abcdefghijkl");
        Check.due("call", x.call(1, 8), 0);
        x.erase();
        Check.due("LINE", Check.typeMore(x,
                "c(string,any,long , [C]byte?, optional enum(abcdefgh,bcdefghi)?          )"), 74);
    }

    /** The same, with a place. */
    static void toldAndRefused(IdlCaller x) {
        told(x);
        Check.due("refused call", x.call(0, 2), IdlCaller.KIND);
        Check.due("its place", x.place(), 2);
    }

    private static Map<String, Look> looks() {
        Map<String, Look> looks = new LinkedHashMap<>();
        looks.put("THE LINE", x -> x.type(0, 0, 0, 0, 0) + " " + x.define() + " " + x.place() + " " + x.erase());
        looks.put("THE LINE with more", Twins::lineWithMore);
        looks.put("what was converted", Twins::converted);
        looks.put("OPERATIONS", Twins::operations);
        looks.put("VALUES", x -> values(x, "f(any...)"));
        looks.put("TEXT of VALUES", x -> values(x, "f(string...)"));
        looks.put("NUMBER of VALUES", x -> values(x, "f([C]long...)"));
        for (int i = 0; i < 6; i++) {
            int operation = i;
            looks.put("calls of " + operation, x -> calls(x, operation));
            looks.put("FORMS of " + operation, x -> x.drop(operation) + " " + x.operation(operation, 1));
        }
        return looks;
    }

    private static String lineWithMore(IdlCaller x) {
        // One that is full is looked at as it is.
        int length = x.type(0, 0, 0, 0, 0);
        return (length > 98 ? length : x.type(' ', 'x', 0, 0, 0)) + " " + x.define() + " " + x.place();
    }

    private static String converted(IdlCaller x) {
        StringBuilder all = new StringBuilder(Check.showAll(x));
        for (int k = 0; k <= 8; k++) {
            all.append(' ').append(x.kind(k)).append(' ').append(x.whole(k, NONE)).append(' ').append(x.real(k, NONE));
        }
        return all.toString();
    }

    private static String operations(IdlCaller x) {
        StringBuilder all = new StringBuilder();
        for (int operation = 0; operation < 6; operation++) {
            for (int what = 0; what < 12; what++) {
                all.append(x.operation(operation, what)).append(' ');
            }
        }
        return all.toString();
    }

    /** All SLOTS, as a FORM with one VARIADIC ARGUMENT takes them. */
    private static String values(IdlCaller x, String form) {
        x.drop(5);
        Check.due("define of " + form, Check.define(x, form), 0);
        Check.due("call of " + form, x.call(5, 8), 0);
        return Check.showAll(x);
    }

    private static String calls(IdlCaller x, int operation) {
        StringBuilder all = new StringBuilder();
        for (int n = 0; n <= 8; n++) {
            all.append(x.call(operation, n)).append(" at ").append(x.place()).append(':');
            for (int k = 0; k <= 8; k++) {
                all.append(' ').append(x.kind(k)).append(' ').append(x.whole(k, NONE));
            }
            all.append('\n');
        }
        return all.toString();
    }
}
