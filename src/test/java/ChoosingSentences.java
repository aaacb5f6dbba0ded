/** What the Terms say of CHOOSING a FORM, and of the places that it fills. */
final class ChoosingSentences {
    private static final int NONE = IdlCaller.NONE;
    private static final Object UNDEFINED = Expect.UNDEFINED;

    private ChoosingSentences() {
    }

    static void tell(Sentences all) {
        String terms = "Terms";
        all.holds(terms, "CHOOSING: the FORMS that can be called with n;", ChoosingSentences::withN);
        all.holds(terms, "if that is above the most that some can be called with, those that can with that",
                ChoosingSentences::aboveTheMost);
        all.holds(terms, "(the VALUES behind are left out);", ChoosingSentences::leftOut);
        all.holds(terms, "KIND at n, if there are none.", ChoosingSentences::none);
        all.holds(terms, "If there is but one it is taken.", ChoosingSentences::butOne);
        all.holds(terms, "Else, VALUES before the DECIDING one having been converted,", ChoosingSentences::before);
        all.holds(terms, "by that VALUE:", ChoosingSentences::byThatValue);
        all.holds(terms, "undefined: a FORM where it is optional or VARIADIC;", ChoosingSentences::optional);
        all.holds(terms, "else, of undefined and null: one where it is NULLABLE;", ChoosingSentences::nullable);
        all.holds(terms, "else, of a LIST: one with a list;", ChoosingSentences::list);
        all.holds(terms, "else of a boolean: with a boolean;", ChoosingSentences::aBoolean);
        all.holds(terms, "of a number: with a NUMBER;", ChoosingSentences::number);
        all.holds(terms, "then, of any VALUE: with a STRING;", ChoosingSentences::thenString);
        all.holds(terms, "else with a NUMBER;", ChoosingSentences::elseNumber);
        all.holds(terms, "else with a boolean;", ChoosingSentences::elseBoolean);
        all.holds(terms, "else KIND at it.", ChoosingSentences::elseKind);
        all.holds(terms, "(The least FORM, if several would be.)", ChoosingSentences::least);
        all.holds(terms, "ARGUMENTS of the FORM behind the n are MISSING.", ChoosingSentences::behindAreMissing);
        all.holds(terms, "What is converted has as many places as the FORM has ARGUMENTS, or n, if that is more.",
                ChoosingSentences::places);
    }

    private static void withN() {
        IdlCaller x = Check.with("a()", "a(any,any)", "a(any,any,any,optional any)");
        int[] due = {0, IdlCaller.KIND, 1, 2, 2, 2};
        for (int n = 0; n < due.length; n++) {
            Check.due("call with " + n, x.call(0, n), due[n]);
        }
        IdlCaller more = Check.with("a(any,any)", "a(any)", "a(any,any,any,any...)");
        int[] dueOfMore = {IdlCaller.KIND, 1, 0, 2, 2, 2, 2, 2, 2};
        for (int n = 0; n < dueOfMore.length; n++) {
            Check.due("call with " + n, more.call(0, n), dueOfMore[n]);
        }
    }

    private static void aboveTheMost() {
        IdlCaller x = Check.with("a(any)", "a(any,long)", "a(any,string)", "a()");
        x.number(1, 7);
        for (int n = 2; n <= 8; n++) {
            x.number(1, 7);
            Check.due("call with " + n, x.call(0, n), 1);
            Check.tell(x, 1, "x");
            Check.due("call with " + n, x.call(0, n), 2);
        }
        Check.due("call with 1", x.call(0, 1), 0);
        Check.due("call with 0", x.call(0, 0), 3);
        IdlCaller none = Check.with("a()");
        for (int n = 0; n <= 8; n++) {
            Check.due("call with " + n, none.call(0, n), 0);
        }
        // A VARIADIC one is called with eight, so that nothing is above.
        IdlCaller variadic = Check.with("a(long,long)", "a(string,any,any...)");
        variadic.number(0, 7);
        Check.due("call with 8", variadic.call(0, 8), 1);
        Check.due("call with 2", variadic.call(0, 2), 0);
    }

    private static void leftOut() {
        IdlCaller x = Check.with("a([E]octet,[E]octet)");
        for (int slot = 0; slot < 8; slot++) {
            x.number(slot, slot < 2 ? slot : 1000);
        }
        for (int n = 2; n <= 8; n++) {
            Check.due("call with " + n, x.call(0, n), 0);
            Check.due("place", x.place(), NONE);
            Check.dueText("the first two", Check.showAll(x), "w0; w1");
        }
        x.number(1, 256);
        Check.due("call with 3", x.call(0, 3), IdlCaller.KIND);
        Check.due("place", x.place(), 1);
    }

    private static void none() {
        IdlCaller x = new IdlCaller();
        for (int n = 0; n <= 8; n++) {
            Check.due("call with " + n, x.call(5, n), IdlCaller.KIND);
            Check.due("place", x.place(), n);
        }
        IdlCaller gaps = Check.with("a(any)", "a(any,any,any,any)");
        for (int n : new int[] {0, 2, 3}) {
            Check.due("call with " + n, gaps.call(0, n), IdlCaller.KIND);
            Check.due("place", gaps.place(), n);
        }
        for (int n : new int[] {1, 4, 5}) {
            Check.due("call with " + n, gaps.call(0, n), n == 1 ? 0 : 1);
        }
        IdlCaller dropped = Check.with("a(any...)");
        dropped.drop(0);
        Check.due("call", dropped.call(0, 3), IdlCaller.KIND);
        Check.due("place", dropped.place(), 3);
    }

    private static void butOne() {
        // One that the VALUE would not choose, were there more of them.
        IdlCaller x = Check.with("a(list<any>)", "a(boolean,any)", "a([E]byte,any,any)", "a(enum(x),any,any,any)");
        Expect.takes(x, 0, "[]", (Object) Expect.list());
        Expect.takes(x, 1, "true; d1.0", "x", 1.0);
        Expect.takes(x, 2, "w1; null; null", true, null, null);
        Expect.takes(x, 3, "'x'; null; null; null", Expect.list("x"), null, null, null);
        Expect.refuses(x, 0, "x");
        Expect.refuses(x, 0, "x", null, null);
        // One with any, which is of no sort.
        IdlCaller any = Check.with("a(any)", "a(any,list<any>)", "a([E]octet,any,any)");
        for (Object value : new Object[] {UNDEFINED, null, true, 1.5, "x", Expect.list()}) {
            Check.due("call with 1", Expect.call(any, new Object[] {value}), 0);
            Check.due("call with 2", Expect.call(any, value, Expect.list()), 1);
            Check.due("call with 3", Expect.call(any, 5.0, value, value), 2);
        }
        Expect.refuses(x, 0, 1.0, null, null, null);
    }

    private static void before() {
        IdlCaller x = Check.with("a([E]octet,enum(x),list<any>)", "a([E]octet,enum(x),long)");
        Expect.takes(x, 0, "w255; 'x'; []", 255.0, "x", Expect.list());
        Expect.takes(x, 1, "w0; 'x'; w7", 0.0, "x", 7.0);
        Expect.refuses(x, 0, 256.0, "y", Expect.list());
        Expect.refuses(x, 1, 255.0, "y", Expect.list());
        // Both VALUES are refused, the one before first.
        IdlCaller two = Check.with("a([E]octet,list<any>)", "a([E]octet,[E]long...)");
        Expect.refuses(two, 0, 256.0, "x");
        Expect.refuses(two, 1, 255.0, "x");
        Expect.takes(two, 1, "w255; w0", 255.0, null);
    }

    private static void byThatValue() {
        IdlCaller x = Check.with("a(any,string,any)", "a(any,long,any)");
        Expect.takes(x, 0, "d1.0; 'x'; d2.0", 1.0, "x", 2.0);
        Expect.takes(x, 1, "'x'; w1; 'y'", "x", 1.0, "y");
        IdlCaller last = Check.with("a(any,any,any,any,string)", "a(any,any,any,any,boolean)");
        Expect.takes(last, 0, "true; true; true; true; 'x'", true, true, true, true, "x");
        Expect.takes(last, 1, "'x'; 'x'; 'x'; 'x'; true", "x", "x", "x", "x", true);
        IdlCaller eighth = Check.with("a(long,any...)", "a(string,any...)");
        Expect.takes(eighth, 0, "w1; null; null; null; null; null; null; 'x'", 1.0, null, null, null, null, null, null,
                "x");
        Expect.takes(eighth, 1, "'x'; null; null; null; null; null; null; d1.0", "x", null, null, null, null, null,
                null, 1.0);
    }

    private static void optional() {
        IdlCaller x = Check.with("a(any,string)", "a(any,optional long)");
        Expect.takes(x, 1, "null; missing", null, UNDEFINED);
        Expect.takes(x, 0, "null; 'null'", null, null);
        IdlCaller variadic = Check.with("a(any,long...)", "a(any,string,any)", "a(any,list<any>)");
        Expect.takes(variadic, 0, "null; missing", null, UNDEFINED);
        Expect.takes(variadic, 0, "null; missing; w1", null, UNDEFINED, 1.0);
        Expect.takes(variadic, 0, "null; w0", null, null);
        // It goes before a NULLABLE one and before a STRING.
        IdlCaller nullable = Check.with("a(any,string?)", "a(any,optional long)", "a(any,boolean)");
        Expect.takes(nullable, 1, "null; missing", null, UNDEFINED);
        Expect.takes(nullable, 0, "null; NULL", null, null);
        // Only the DECIDING one counts, not those behind.
        IdlCaller behind = Check.with("a(long,optional any)", "a(string,any)");
        Expect.takes(behind, 1, "'undefined'; undefined", UNDEFINED, UNDEFINED);
    }

    private static void nullable() {
        for (Object value : new Object[] {UNDEFINED, null}) {
            IdlCaller list = Check.with("a(string)", "a(list<any>?)", "a(long)", "a(boolean)");
            Expect.takes(list, 1, "NULL", new Object[] {value});
            IdlCaller number = Check.with("a(string)", "a(list<any>)", "a([E]long?)", "a(boolean)");
            Expect.takes(number, 2, "NULL", new Object[] {value});
            IdlCaller one = Check.with("a(string)", "a(list<any>)", "a(long)", "a(boolean?)");
            Expect.takes(one, 3, "NULL", new Object[] {value});
            String text = value == null ? "'null'" : "'undefined'";
            IdlCaller without = Check.with("a(long)", "a(string)", "a(list<long?>)", "a(boolean)");
            Expect.takes(without, 1, text, new Object[] {value});
        }
        // Of no other VALUE, not of those that are like null.
        IdlCaller x = Check.with("a(string)", "a(boolean?)");
        Expect.takes(x, 0, "'0'", 0.0);
        Expect.takes(x, 0, "''", "");
        Expect.takes(x, 0, "''", (Object) Expect.list());
        Expect.takes(x, 1, "false", false);
    }

    private static void list() {
        IdlCaller x = Check.with("a(string)", "a(long)", "a(list<any>)", "a(boolean)");
        Expect.takes(x, 2, "[]", (Object) Expect.list());
        Expect.takes(x, 2, "[d1.0 'x']", (Object) Expect.list(1.0, "x"));
        for (Object other : new Object[] {1.0, "", true, null, UNDEFINED}) {
            Check.due("of another VALUE", Expect.call(x, other) == 2 ? 1 : 0, 0);
        }
        IdlCaller nullable = Check.with("a(string)", "a(list<any>?)");
        Expect.takes(nullable, 1, "[]", (Object) Expect.list());
        IdlCaller without = Check.with("a(boolean)", "a(long)", "a(string)");
        Expect.takes(without, 2, "'1'", (Object) Expect.list(1.0));
        // What cannot be converted is refused; no other FORM is tried.
        IdlCaller strict = Check.with("a(string)", "a(list<[E]octet>)");
        Expect.takes(strict, 1, "[w255]", (Object) Expect.list(255.0));
        Expect.refuses(strict, 0, (Object) Expect.list(256.0));
    }

    private static void aBoolean() {
        for (boolean value : new boolean[] {false, true}) {
            IdlCaller x = Check.with("a(string)", "a(long)", "a(list<any>)", "a(boolean)");
            Expect.takes(x, 3, "" + value, value);
            IdlCaller nullable = Check.with("a(string)", "a(long)", "a(boolean?)");
            Expect.takes(nullable, 2, "" + value, value);
            IdlCaller without = Check.with("a(long)", "a(string)");
            Expect.takes(without, 1, "'" + value + "'", value);
        }
        IdlCaller x = Check.with("a(string)", "a(boolean)");
        for (Object other : new Object[] {1.0, "true", Expect.list(true), null, UNDEFINED}) {
            Check.due("of another VALUE", Expect.call(x, new Object[] {other}), 0);
        }
    }

    private static void number() {
        for (String type : new String[] {"byte", "octet", "short", "long", "double", "[C]byte", "[E]long", "long?"}) {
            IdlCaller x = Check.with("a(string)", "a(boolean)", "a(list<any>)", "a(" + type + ")");
            for (double value : new double[] {0, 1, -1, 0.125, 100}) {
                Check.due("number to " + type, Expect.call(x, value), 3);
            }
            for (Object other : new Object[] {"1", "0x1", "", Expect.list(1.0), true}) {
                Check.due("another VALUE to " + type, Expect.call(x, new Object[] {other}) == 3 ? 1 : 0, 0);
            }
        }
        IdlCaller without = Check.with("a(boolean)", "a(list<any>)", "a(string)");
        Expect.takes(without, 2, "'1.5'", 1.5);
    }

    private static void thenString() {
        for (String type : new String[] {"string", "enum(x,true,null)", "string?"}) {
            IdlCaller x = Check.with("a(long)", "a(boolean)", "a(" + type + ")");
            Expect.takes(x, 2, "'x'", "x");
            Expect.takes(x, 2, "'x'", (Object) Expect.list("x"));
        }
        IdlCaller x = Check.with("a(list<any>)", "a(string)");
        Object[] values = {UNDEFINED, null, false, true, 2.5, "", "7"};
        String[] due = {"undefined", "null", "false", "true", "2.5", "", "7"};
        for (int i = 0; i < values.length; i++) {
            Expect.takes(x, 1, "'" + due[i] + "'", new Object[] {values[i]});
        }
        IdlCaller numbers = Check.with("a(long)", "a(string)");
        Expect.takes(numbers, 1, "'7'", "7");
        Expect.takes(numbers, 1, "'true'", true);
        Expect.takes(numbers, 1, "'7'", (Object) Expect.list(7.0));
        IdlCaller words = Check.with("a(long)", "a(enum(x))");
        Expect.refuses(words, 0, "7");
    }

    private static void elseNumber() {
        IdlCaller x = Check.with("a(list<any>)", "a(boolean)", "a([C]octet)");
        Expect.takes(x, 2, "w7", "7");
        Expect.takes(x, 2, "w0", "x");
        Expect.takes(x, 2, "w0", UNDEFINED);
        Expect.takes(x, 2, "w0", new Object[] {null});
        IdlCaller without = Check.with("a(boolean)", "a(double)");
        Expect.takes(without, 1, "d7.0", (Object) Expect.list(7.0));
        Expect.refuses(without, 0, (Object) Expect.list("x"));
        IdlCaller two = Check.with("a(list<any>)", "a(long)");
        Expect.takes(two, 1, "w1", true);
    }

    private static void elseBoolean() {
        IdlCaller x = Check.with("a(list<any>)", "a(boolean)");
        Object[] values = {UNDEFINED, null, 0.0, 1.5, "", "x"};
        for (int i = 0; i < values.length; i++) {
            Expect.takes(x, 1, "" + (i % 2 == 1 && i > 1), new Object[] {values[i]});
        }
        Expect.takes(x, 0, "[]", (Object) Expect.list());
    }

    private static void elseKind() {
        // Of two DISTINCT TYPES one is no list, and takes any VALUE: by CHOOSING alone KIND is never due.
        Object[] values = {UNDEFINED, null, false, 1.5, "x", "", Expect.list(), Expect.list("x")};
        String[] types = {"list<any>", "string", "long", "boolean"};
        for (String one : types) {
            for (String other : types) {
                if (!one.equals(other)) {
                    IdlCaller x = Check.with("a(any," + one + ")", "a(any," + other + ")");
                    for (Object value : values) {
                        Check.due("is there a FORM of " + one + ", " + other, Expect.call(x, null, value) >= 0 ? 1 : 0,
                                1);
                    }
                }
            }
        }
        // KIND at it is due where the FORM that is chosen refuses it.
        IdlCaller x = Check.with("a(any,list<any>)", "a(any,[E]octet)");
        Expect.takes(x, 1, "null; w255", null, "255");
        Expect.refuses(x, 1, null, "256");
        Expect.refuses(x, 1, null, UNDEFINED);
    }

    private static void least() {
        // DISTINCT TYPES are of different sorts, at most one of them is NULLABLE, and of two FORMS that are alike
        // before it at most one is optional or VARIADIC: never are there several. So it is told that the order does
        // not count.
        String[] forms = {"a(any,boolean?)", "a(any,optional long)", "a(any,string)", "a(any,list<any>)"};
        Object[] values = {UNDEFINED, null, true, 1.5, "x", Expect.list()};
        int[] due = {1, 0, 0, 1, 2, 3};
        for (int turn = 0; turn < forms.length; turn++) {
            IdlCaller x = new IdlCaller();
            for (int i = 0; i < forms.length; i++) {
                Check.due("define", Check.define(x, forms[(i + turn) % forms.length]), i);
            }
            for (int i = 0; i < values.length; i++) {
                int form = Expect.call(x, null, values[i]);
                Check.due("FORM turned by " + turn + " for " + values[i], form < 0 ? form
                        : (form + turn) % forms.length, due[i]);
            }
        }
        Expect.same(1, "a(any,optional long)", "a(any,string...)");
        Expect.same(2, "a(any,long?)", "a(any,string?)");
    }

    private static void behindAreMissing() {
        IdlCaller x = Check.with("a(any,optional any,optional long,optional list<any>,any...)");
        String[] due = {"null; missing; missing; missing; missing", "null; null; missing; missing; missing",
            "null; null; w0; missing; missing", "null; null; w0; []; missing", "null; null; w0; []; null"};
        for (int slot = 0; slot < 5; slot++) {
            x.simple(slot, slot == 3 ? 4 : 1);
        }
        for (int n = 1; n <= 5; n++) {
            Check.due("call with " + n, x.call(0, n), 0);
            Check.dueText("with " + n, Check.showAll(x), due[n - 1]);
        }
        Check.due("call with 1", x.call(0, 1), 0);
        Check.dueText("with 1, after more", Check.showAll(x), due[0]);
        IdlCaller none = Check.with("a(optional long)", "b(long...)");
        Check.due("call with 0", none.call(0, 0), 0);
        Check.dueText("optional", Check.showAll(none), "missing");
        Check.due("call with 0", none.call(1, 0), 0);
        Check.dueText("VARIADIC", Check.showAll(none), "missing");
    }

    private static void places() {
        IdlCaller x = Check.with("a()", "b(any)", "c(any,any,any,any,any)", "d(any,any...)",
                "e(any,optional any,optional any)");
        for (int n = 0; n <= 8; n++) {
            placesAre(x, 0, n, 0);
            placesAre(x, 1, n, n < 1 ? NONE : 1);
            placesAre(x, 2, n, n < 5 ? NONE : 5);
            placesAre(x, 3, n, n < 1 ? NONE : Math.max(n, 2));
            placesAre(x, 4, n, n < 1 ? NONE : 3);
        }
    }

    /** NONE is due where the call is refused. */
    private static void placesAre(IdlCaller x, int operation, int n, int due) {
        if (x.call(operation, n) != 0) {
            Check.due("a refused call of " + operation + " with " + n, NONE, due);
            return;
        }
        if (due > 0) {
            Check.due("last place of " + operation + " with " + n, x.kind(due - 1) == NONE ? 1 : 0, 0);
        }
        Check.due("behind the last place of " + operation + " with " + n, x.kind(due), NONE);
    }
}
