/** Promises 4, 5, 6 and 12: FORMS that can be told from one another, and those that cannot; drop; operation. */
public final class SameTest {
    private static final int NONE = IdlCaller.NONE;

    public static void main(String[] args) {
        numbersOfForms();
        sorts();
        argumentsBefore();
        countsOfArguments();
        moreThanTwo();
        full();
        drop();
        operation();
        Check.end("SameTest");
    }

    private static void numbersOfForms() {
        Expect.told("a()", "a(long)", "a(long, long)", "a(long, long, long)");
        IdlCaller x = Check.with("a()", "b()", "a(long)");
        Check.due("the number is of its OPERATION", Check.define(x, "b(long)"), 1);
        Check.due("the same FORM of another OPERATION", Check.define(x, "f(long)"), 0);
    }

    private static void sorts() {
        String[][] sorts = {{"boolean"}, {"byte", "octet", "short", "long", "double", "[C]long", "[E]byte"},
            {"string", "enum(a,b)", "enum(c)"}, {"list<long>", "list<any>", "list<boolean?>"}};
        for (int i = 0; i < sorts.length; i++) {
            for (int j = 0; j < sorts.length; j++) {
                for (String one : sorts[i]) {
                    for (String other : sorts[j]) {
                        twoTypes(i != j, one, other);
                    }
                }
            }
            Expect.same(1, "a(any)", "a(" + sorts[i][0] + ")");
            Expect.same(1, "a(" + sorts[i][0] + "?)", "a(any)");
        }
        Expect.same(1, "a(any)", "a(any)");
    }

    private static void twoTypes(boolean distinct, String one, String other) {
        if (distinct) {
            Expect.told("a(" + one + ")", "a(" + other + ")");
            Expect.told("a(" + one + "?)", "a(" + other + ")");
            Expect.told("a(" + one + ")", "a(" + other + "?)");
        } else {
            Expect.same(1, "a(" + one + ")", "a(" + other + ")");
        }
        Expect.same(1, "a(" + one + "?)", "a(" + other + "?)");
    }

    private static void argumentsBefore() {
        Expect.told("a(long, string)", "a(long, boolean)");
        Expect.told("a(any, any, string)", "a(any, any, boolean)");
        Expect.told("a(enum(x,y), list<long?>?, string)", "a(enum(x,y), list<long?>?, boolean)");
        Expect.told("a([C]byte?, string)", "a([C]byte?, long)");
        Expect.same(2, "a(long, string)", "a(double, boolean)");
        Expect.same(2, "a([C]long, string)", "a(long, boolean)");
        Expect.same(2, "a([C]long, string)", "a([E]long, boolean)");
        Expect.same(2, "a(long?, string)", "a(long, boolean)");
        Expect.same(2, "a(enum(x,y), string)", "a(enum(y,x), boolean)");
        Expect.same(2, "a(enum(x,y), string)", "a(enum(x), boolean)");
        Expect.same(2, "a(enum(x), string)", "a(enum(x,y), boolean)");
        Expect.same(2, "a(enum(x), string)", "a(enum(y), boolean)");
        Expect.same(2, "a(list<long>, string)", "a(list<short>, boolean)");
        Expect.same(2, "a(list<long>, string)", "a(list<long?>, boolean)");
        Expect.same(2, "a(list<long>, string)", "a(list<[C]long>, boolean)");
        Expect.same(2, "a(list<long>, string)", "a(list<long>?, boolean)");
        Expect.same(2, "a(list<enum(x)>, string)", "a(list<enum(y)>, boolean)");
        Expect.same(2, "a(long, string)", "a(optional long, optional boolean)");
        Expect.same(2, "a(long, boolean, boolean)", "a(long, long)", "a(long, short)");
        Expect.told("a(string, any)", "a(long, any)");
        Expect.told("a(string, long)", "a(long, string, string)", "a(boolean, long)");
    }

    private static void countsOfArguments() {
        Expect.told("a()", "a(long, long)", "a(long)");
        Expect.same(0, "a()", "a()");
        Expect.same(0, "a()", "a(optional long)");
        Expect.same(0, "a()", "a(long...)");
        Expect.same(0, "a(optional long)", "a(optional string)");
        Expect.same(1, "a(long)", "a(long, optional long)");
        Expect.same(1, "a(long)", "a(long, long...)");
        Expect.same(1, "a(long, long...)", "a(long...)");
        Expect.same(2, "a(long, optional long)", "a(long, long)");
        Expect.same(3, "a(string, long, long)", "a(string, optional string, optional string, optional string)", "a(string, long, short)");
        Expect.told("a(string, optional boolean)", "a(long)");
        Expect.told("a(string...)", "a(long)");
        Expect.told("a(string, string...)", "a(long, long...)");
        Expect.same(3, "a(long, long, long)", "a(long...)");
        Expect.same(3, "a(long, string...)", "a(long, boolean, string)", "a(boolean, long...)");
        Expect.same(3, "a(long, string, string...)", "a(long, boolean, any)", "a(long, long, long)", "a(short, string, string)");
        Expect.same(1, "a(long, string...)", "a(long, optional boolean)");
        // n goes up to eight: the last ARGUMENT of a VARIADIC FORM comes again and again.
        Expect.told("a(boolean, boolean, boolean, boolean, boolean)", "a(string, string...)");
        Expect.same(5, "a(long, long, long, long, short)", "a(long, long, long, long, double)");
    }

    private static void moreThanTwo() {
        Expect.told("a(long)", "a(string)", "a(boolean)", "a(list<long>)");
        Expect.same(1, "a(long)", "a(string)", "a(boolean)", "a(enum(x))");
        Expect.told("a(long, long)", "a(long, string)", "a(long, boolean)", "a(long, list<any>)");
        Expect.same(2, "a(long, long)", "a(long, string)", "a(string, long)");
        Expect.same(2, "a(string, long)", "a(boolean, long)", "a(string, boolean)");
        Expect.told("a(long, string)", "a(long, boolean)", "a(string)");
        Expect.told("a(long?)", "a(string)", "a(boolean)");
        Expect.same(1, "a(long?)", "a(string)", "a(boolean?)");
    }

    private static void full() {
        IdlCaller x = Check.with("a()", "a(long)", "a(string)", "a(boolean)", "a(list<long>)", "a(long, long)");
        Check.due("SIGN goes before FULL", Check.define(x, "a(long, string"), IdlCaller.SIGN);
        Check.due("its place", x.place(), 14);
        Check.due("FULL", Check.define(x, "a(long, string)"), IdlCaller.FULL);
        Check.due("place of FULL", x.place(), NONE);
        Check.due("SAME goes before FULL", Check.define(x, "a(short)"), IdlCaller.SAME);
        Check.due("n of it", x.place(), 1);
        Check.due("FULL again", Check.define(x, "a(long, long, long)"), IdlCaller.FULL);
        Check.due("place of FULL again", x.place(), NONE);
        Check.due("six as before", x.operation(0, 0), 6);
        Check.due("most as before", x.operation(0, 1), 2);
        Check.due("another OPERATION is not full", Check.define(x, "b(long)"), 0);
    }

    private static void drop() {
        IdlCaller x = Check.with("a()", "a(long)", "b(long)", "b(string)", "b(boolean)");
        Check.define(x, "a(short)");
        Check.due("drop of two", x.drop(0), 2);
        Check.due("drop leaves the place", x.place(), 1);
        Check.due("drop of none", x.drop(0), 0);
        Check.due("none are left", x.operation(0, 0), 0);
        Check.due("the others are", x.operation(1, 0), 3);
        Check.due("a FORM again, 0 first", Check.define(x, "a(short)"), 0);
        x.number(0, 7);
        x.call(1, 1);
        Check.due("drop of what was called", x.drop(1), 3);
        Check.dueText("what was converted stays", Check.showAll(x), "w7");
        for (int operation : new int[] {-1, 6, Integer.MIN_VALUE, Integer.MAX_VALUE}) {
            Check.refusesArgument("drop of " + operation, () -> x.drop(operation));
        }
        Check.due("drop of the last", x.drop(5), 0);
    }

    private static void operation() {
        IdlCaller x = Check.with("a(long, string)", "a(long, boolean, string...)", "a(long, list<any>)", "b(long, long, long)",
                "b(string)", "c(optional long)", "d(long, long, optional string)", "d(long, long, boolean)", "e()");
        asked(x, 0, 3, 8, 2, NONE, NONE, 1, NONE, NONE, NONE, NONE, NONE, NONE);
        asked(x, 1, 2, 3, 1, NONE, NONE, NONE, NONE, NONE, NONE, NONE, NONE, NONE);
        asked(x, 2, 1, 1, 0, NONE, NONE, NONE, NONE, NONE, NONE, NONE, NONE, NONE);
        asked(x, 3, 2, 3, 2, NONE, NONE, NONE, 2, NONE, NONE, NONE, NONE, NONE);
        asked(x, 4, 1, 0, 0, NONE, NONE, NONE, NONE, NONE, NONE, NONE, NONE, NONE);
        asked(x, 5, 0, NONE, NONE, NONE, NONE, NONE, NONE, NONE, NONE, NONE, NONE, NONE);
        IdlCaller y = Check.with("f(any, long, long...)", "f(any, string, long, string...)");
        asked(y, 5, 2, 8, 2, NONE, NONE, NONE, 1, 1, 1, 1, 1, 1);
    }

    /** The answers for what = 0, 1, 2, and then those for each n; the first three are no DECIDING ones. */
    private static void asked(IdlCaller x, int operation, int... due) {
        for (int what = 0; what < due.length; what++) {
            Check.due("operation(" + operation + ", " + what + ")", x.operation(operation, what), due[what]);
        }
        for (int what : new int[] {-1, 12, Integer.MIN_VALUE, Integer.MAX_VALUE}) {
            Check.refusesArgument("operation(" + operation + ", " + what + ")", () -> x.operation(operation, what));
        }
        for (int wrong : new int[] {-1, 6, Integer.MIN_VALUE, Integer.MAX_VALUE}) {
            Check.refusesArgument("operation(" + wrong + ", 0)", () -> x.operation(wrong, 0));
        }
    }
}
