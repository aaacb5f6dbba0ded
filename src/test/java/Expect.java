/** What the tests expect of FORMS, of calls and of what VALUES become, each on an object of its own or on one given. */
final class Expect {
    static final Object UNDEFINED = new Object();
    static final String REFUSED = "refused";

    private Expect() {
    }

    /** The line is a FORM of the OPERATION that it tells, and of no other. */
    static void good(String form) {
        IdlCaller x = new IdlCaller();
        Check.due("define of " + form, Check.define(x, form), 0);
        Check.due("place after " + form, x.place(), IdlCaller.NONE);
        int operation = form.trim().charAt(0) - 'a';
        for (int i = 0; i < 6; i++) {
            Check.due("FORMS of " + i + " after " + form, x.operation(i, 0), i == operation ? 1 : 0);
        }
    }

    static void bad(String form, int place) {
        IdlCaller x = new IdlCaller();
        Check.due("define of " + form, Check.define(x, form), IdlCaller.SIGN);
        Check.due("place in " + form, x.place(), place);
        for (int i = 0; i < 6; i++) {
            Check.due("FORMS after " + form, x.operation(i, 0), 0);
        }
    }

    /** The line cannot go on at the mark ^, which is not typed. */
    static void stops(String form) {
        bad(form.replace("^", ""), form.indexOf('^'));
    }

    /** The FORMS of one OPERATION can be told from one another. */
    static void told(String... forms) {
        IdlCaller x = new IdlCaller();
        for (int i = 0; i < forms.length; i++) {
            Check.due("define of " + forms[i] + " as " + i, Check.define(x, forms[i]), i);
            Check.due("place after it", x.place(), IdlCaller.NONE);
        }
    }

    /** The last one of the FORMS is refused with n. */
    static void same(int n, String... forms) {
        IdlCaller x = new IdlCaller();
        int last = forms.length - 1;
        for (int i = 0; i < last; i++) {
            Check.due("define of " + forms[i] + " as " + i, Check.define(x, forms[i]), i);
        }
        Check.due("define of " + forms[last] + " behind " + forms[last - 1], Check.define(x, forms[last]),
                IdlCaller.SAME);
        Check.due("n of " + forms[last], x.place(), n);
        Check.due("FORMS are as many as before", x.operation(forms[0].charAt(0) - 'a', 0), last);
    }

    static Object[] list(Object... values) {
        return values;
    }

    static void tell(IdlCaller x, int slot, Object value) {
        if (value instanceof Object[] values) {
            Check.tellList(x, slot, values);
        } else {
            Check.tellAny(x, slot, value);
        }
    }

    /** Calls operation a; a SLOT's VALUE is told by each object, a LIST by an array. */
    static int call(IdlCaller x, Object... values) {
        for (int i = 0; i < values.length; i++) {
            tell(x, i, values[i]);
        }
        return x.call(0, values.length);
    }

    static void takes(IdlCaller x, int form, String converted, Object... values) {
        Check.due("call", call(x, values), form);
        Check.due("place", x.place(), IdlCaller.NONE);
        Check.dueText("converted", Check.showAll(x), converted);
        Check.due("no place behind", x.kind(converted.isEmpty() ? 0 : converted.split("; ").length), IdlCaller.NONE);
    }

    static void refuses(IdlCaller x, int place, Object... values) {
        String before = Check.showAll(x);
        Check.due("call", call(x, values), IdlCaller.KIND);
        Check.due("place", x.place(), place);
        Check.dueText("what was converted before stays", Check.showAll(x), before);
    }

    /** What the VALUE becomes for a FORM with one ARGUMENT of the TYPE. */
    static void becomes(String type, Object value, String due) {
        IdlCaller x = Check.with("a(" + type + ")");
        tell(x, 0, value);
        int form = x.call(0, 1);
        Check.due("place", x.place(), form == 0 ? IdlCaller.NONE : 0);
        Check.dueText(value + " as " + type, form == 0 ? Check.show(x, 0) : REFUSED, due);
    }

    interface WithNumber {
        void on(IdlCaller x, int i);
    }

    /** A number that is told is taken, another one refused with IllegalArgument. */
    static void argument(boolean told, int i, String what, Twins.Calls before, WithNumber call) {
        IdlCaller x = new IdlCaller();
        before.on(x);
        if (told) {
            call.on(x, i);
        } else {
            Check.refusesArgument(what + " with " + i, () -> call.on(x, i));
        }
    }
}
