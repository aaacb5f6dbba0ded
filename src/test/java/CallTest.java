/** Promises 6 and 11: which FORM a call takes, where it is refused, and what a refused one leaves. */
public final class CallTest {
    private static final int NONE = IdlCaller.NONE;
    private static final int KIND = IdlCaller.KIND;
    private static final Object UNDEFINED = Expect.UNDEFINED;

    public static void main(String[] args) {
        countOfValues();
        byOneValue();
        byUndefinedAndNull();
        laterDeciding();
        variadic();
        refusals();
        wrongNumbers();
        Check.end("CallTest");
    }

    private static void countOfValues() {
        IdlCaller x = Check.with("a(long)", "a(long, long, long)");
        Expect.takes(x, 0, "w1", 1.0);
        Expect.refuses(x, 0);
        Expect.refuses(x, 2, 1.0, 2.0);
        Expect.takes(x, 1, "w1; w2; w3", 1.0, 2.0, 3.0);
        Expect.takes(x, 1, "w1; w2; w3", 1.0, 2.0, 3.0, 4.0);
        Expect.takes(x, 1, "w1; w2; w3", 1.0, 2.0, 3.0, 4.0, 5.0, 6.0, 7.0, 8.0);

        IdlCaller none = new IdlCaller();
        for (int n = 0; n <= 8; n++) {
            Check.due("call without FORMS", none.call(5, n), KIND);
            Check.due("place", none.place(), n);
        }
        IdlCaller empty = Check.with("a()");
        Expect.takes(empty, 0, "");
        Expect.takes(empty, 0, "", 1.0, 2.0);

        IdlCaller optional = Check.with("a(long, optional string, optional any)");
        Expect.refuses(optional, 0);
        Expect.takes(optional, 0, "w1; missing; missing", 1.0);
        Expect.takes(optional, 0, "w1; missing; missing", 1.0, UNDEFINED);
        Expect.takes(optional, 0, "w1; missing; d2.0", 1.0, UNDEFINED, 2.0);
        Expect.takes(optional, 0, "w1; 'null'; null", 1.0, null, null);
        Expect.takes(optional, 0, "w1; 'null'; missing", 1.0, null, UNDEFINED, 5.0);

        // Those behind the most are left out before it is looked for the DECIDING one.
        IdlCaller two = Check.with("a(long, string)", "a(long, boolean)", "a(string)");
        Expect.takes(two, 1, "w1; true", 1.0, true, "x", "y");
        Expect.takes(two, 0, "w1; 'b'", 1.0, "b", true);
    }

    private static void byOneValue() {
        IdlCaller all = Check.with("a(boolean)", "a(long)", "a(string)", "a(list<any>)");
        Expect.takes(all, 0, "true", true);
        Expect.takes(all, 1, "w5", 5.0);
        Expect.takes(all, 2, "'5'", "5");
        Expect.takes(all, 3, "[d1.0]", (Object) new Object[] {1.0});
        Expect.takes(all, 2, "'null'", new Object[] {null});
        Expect.takes(all, 2, "'undefined'", UNDEFINED);

        IdlCaller numbers = Check.with("a(boolean)", "a(double)", "a(list<any>)");
        Expect.takes(numbers, 0, "false", false);
        Expect.takes(numbers, 1, "d5.0", "5");
        Expect.takes(numbers, 1, "d0.0", new Object[] {null});
        Expect.refuses(numbers, 0, "five");
        Expect.refuses(numbers, 0, UNDEFINED);
        Expect.takes(numbers, 2, "[]", (Object) new Object[] {});

        IdlCaller booleans = Check.with("a(list<any>)", "a(boolean)");
        Expect.takes(booleans, 1, "true", 5.0);
        Expect.takes(booleans, 1, "false", "");
        Expect.takes(booleans, 1, "false", UNDEFINED);
        Expect.takes(booleans, 0, "[]", (Object) new Object[] {});

        IdlCaller texts = Check.with("a(long)", "a(enum(yes,no,true))");
        Expect.takes(texts, 1, "'yes'", "yes");
        Expect.takes(texts, 1, "'true'", true);
        Expect.takes(texts, 0, "w0", 0.0);
        Expect.refuses(texts, 0, "5");
        Expect.refuses(texts, 0, (Object) new Object[] {5.0});
        Expect.takes(texts, 1, "'no'", (Object) new Object[] {"no"});

        IdlCaller listless = Check.with("a(boolean)", "a(string)");
        Expect.takes(listless, 1, "'1.5,x'", (Object) new Object[] {1.5, "x"});
        Expect.takes(listless, 1, "'1.5'", 1.5);
        IdlCaller list = Check.with("a(string)", "a(list<double>)");
        Expect.refuses(list, 0, (Object) new Object[] {"x"});
        Expect.takes(list, 0, "'true'", true);
        Expect.takes(list, 0, "'8'", 8.0);
    }

    private static void byUndefinedAndNull() {
        IdlCaller optional = Check.with("a(string?, any)", "a(long, optional any)");
        Check.due("DECIDING", optional.operation(0, 5), 0);
        Expect.takes(optional, 0, "NULL; undefined", UNDEFINED, UNDEFINED);
        Expect.takes(optional, 0, "NULL; null", null, null);

        IdlCaller undefined = Check.with("a(any, string?)", "a(any, optional long, optional any)");
        Expect.takes(undefined, 1, "d1.0; missing; missing", 1.0, UNDEFINED);
        Expect.takes(undefined, 0, "d1.0; NULL", 1.0, null);
        Expect.takes(undefined, 0, "d1.0; 'x'", 1.0, "x");
        Expect.takes(undefined, 1, "d1.0; w2; missing", 1.0, 2.0);

        IdlCaller required = Check.with("a(long?, long)", "a(string, optional long)", "a(boolean, optional boolean)");
        Expect.refuses(Check.with("a(list<long>, long)", "a([E]byte, long)"), 0, UNDEFINED, 1.0);
        Expect.takes(required, 0, "NULL; w0", UNDEFINED, UNDEFINED);
        Expect.takes(required, 1, "'x'; missing", "x", UNDEFINED);

        IdlCaller first = Check.with("a(any, optional boolean)", "a(any, string)");
        Expect.takes(first, 0, "null; missing", null, UNDEFINED);
        Expect.takes(first, 1, "null; 'null'", null, null);
        Expect.takes(first, 0, "null; missing", (Object) null);

        IdlCaller least = Check.with("a(any, boolean)", "a(any, long...)");
        Expect.takes(least, 1, "null; missing; missing", null, UNDEFINED, UNDEFINED);
        Expect.takes(least, 1, "null; missing", null, UNDEFINED);
        Expect.takes(least, 0, "null; false", null, false);
        Expect.takes(least, 1, "null; w0", null, null);

        IdlCaller nullable = Check.with("a(string)", "a(list<any>?)", "a(boolean)");
        Expect.takes(nullable, 1, "NULL", UNDEFINED);
        Expect.takes(nullable, 1, "NULL", new Object[] {null});
        Expect.takes(nullable, 1, "[]", (Object) new Object[] {});
        Expect.takes(nullable, 0, "'5'", 5.0);
    }

    private static void laterDeciding() {
        IdlCaller x = Check.with("a([E]byte, enum(on,off), boolean)", "a([E]byte, enum(on,off), list<double>)",
                "a([E]byte, enum(on,off), string, any)");
        Check.due("DECIDING", x.operation(0, 6), 2);
        Expect.takes(x, 0, "w5; 'on'; true", 5.0, "on", true);
        Expect.takes(x, 1, "w5; 'off'; [d1.0 d0.0]", "5", "off", new Object[] {"1", null});
        Expect.refuses(x, 0, 500.0, "in", new Object[] {"x"});
        Expect.refuses(x, 1, 5.0, "in", new Object[] {"x"});
        Expect.refuses(x, 2, 5.0, "on", new Object[] {"x"});
        Expect.takes(x, 0, "w5; 'on'; false", 5.0, "on", "");
        Expect.takes(x, 2, "w5; 'on'; ''; null", 5.0, "on", "", null);
        Expect.refuses(x, 2, 5.0, "on");
    }

    private static void variadic() {
        IdlCaller x = Check.with("a(string, [C]octet...)");
        Expect.refuses(x, 0);
        Expect.takes(x, 0, "'x'; missing", "x");
        Expect.takes(x, 0, "'x'; w1", "x", 1.0);
        Expect.takes(x, 0, "'x'; w1; missing; w255; w0; w1; w0; w16",
                "x", 1.0, UNDEFINED, 300.0, -1.0, true, null, "0x10");
        IdlCaller many = Check.with("a(any, string...)", "a(any, boolean, list<long>...)");
        Expect.takes(many, 1, "d1.0; true; [w1]; []", 1.0, true, new Object[] {1.0}, new Object[] {});
        Expect.takes(many, 0, "d1.0; '1'; '2'; '3'", 1.0, 1.0, 2.0, 3.0);
        Expect.refuses(many, 3, 1.0, true, new Object[] {}, 5.0);
        Expect.takes(many, 0, "d1.0; missing", 1.0);
        IdlCaller only = Check.with("a(long...)");
        Expect.takes(only, 0, "missing");
        Expect.takes(only, 0, "missing; w5", UNDEFINED, 5.0);
    }

    private static void refusals() {
        IdlCaller x = Check.with("a([E]octet, [E]octet, [E]octet)");
        Expect.takes(x, 0, "w1; w2; w3", 1.0, 2.0, 3.0);
        Expect.refuses(x, 0, 256.0, 256.0, 0.0);
        Expect.refuses(x, 1, 0.0, 256.0, 256.0);
        Expect.refuses(x, 2, 0.0, 0.0, -1.0);
        Expect.refuses(x, 2, 0.0, 0.0);
        Expect.takes(x, 0, "w0; w255; w0", 0.0, 255.0, 0.5);
        Check.due("KIND", Expect.call(x, 0.0, 0.0, 300.0), KIND);
        x.erase();
        x.drop(3);
        x.simple(0, 0);
        Check.due("place of the last call", x.place(), 2);
        Check.refusesArgument("call", () -> x.call(0, 9));
        Check.due("what throws leaves the place", x.place(), 2);
        Check.define(x, "b()");
        Check.due("place of a define that had none", x.place(), NONE);
    }

    private static void wrongNumbers() {
        IdlCaller x = Check.with("a(any...)");
        Expect.takes(x, 0, "true; '5'", true, "5");
        for (int wrong : new int[] {-1, 9, Integer.MIN_VALUE, Integer.MAX_VALUE}) {
            Check.refusesArgument("call(0, " + wrong + ")", () -> x.call(0, wrong));
            Check.refusesArgument("call(" + wrong + ", 0)", () -> x.call(wrong, 0));
        }
        Check.refusesArgument("call(6, 0)", () -> x.call(6, 0));
        Check.dueText("what throws changes nothing", Check.showAll(x), "true; '5'");
        Check.due("call(5, 8)", x.call(5, 8), KIND);
    }
}
