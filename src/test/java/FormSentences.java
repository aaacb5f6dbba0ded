/** What the Terms say of FORMS: DISTINCT TYPES, how many ARGUMENTS, the DECIDING one; and of VALUES and SLOTS. */
final class FormSentences {
    private static final int NONE = IdlCaller.NONE;
    private static final Object UNDEFINED = Expect.UNDEFINED;
    private static final String[] NUMBERS = {"byte", "octet", "short", "long", "double", "[C]byte", "[E]long"};
    private static final String[] STRINGS = {"string", "enum(x,y)", "enum(z)"};
    private static final String[] BOOLEANS = {"boolean"};
    private static final String[] LISTS = {"list<any>", "list<long>", "list<boolean?>"};
    private static final String[][] SORTS = {NUMBERS, STRINGS, BOOLEANS, LISTS};

    private FormSentences() {
    }

    static void tell(Sentences all) {
        String terms = "Terms";
        all.holds(terms, "NUMBERS are byte, octet, short, long, double;", () -> oneSort(NUMBERS));
        all.holds(terms, "STRINGS are string, enum.", () -> oneSort(STRINGS));
        all.holds(terms, "Two TYPES are DISTINCT if neither is any,", FormSentences::neitherAny);
        all.holds(terms, "not both are NULLABLE,", FormSentences::notBothNullable);
        all.holds(terms, "and one is a boolean, a NUMBER, a STRING or a list, and the other one is not of that sort.",
                FormSentences::sorts);
        all.holds(terms, "An OPERATION has up to six FORMS, 0 first.", FormSentences::sixForms);
        all.holds(terms, "A FORM can be called with n ARGUMENTS, n being as many as it has,",
                FormSentences::asManyAsItHas);
        all.holds(terms, "or less by optional and VARIADIC ones that are at its end,", FormSentences::lessByOptional);
        all.holds(terms, "or more, with a VARIADIC one again and again,", FormSentences::againAndAgain);
        all.holds(terms, "up to eight in all.", FormSentences::upToEight);
        all.holds(terms, "Two FORMS that can be called with one n must have an ARGUMENT,", FormSentences::withOneN);
        all.holds(terms, "one of the first n,", FormSentences::ofTheFirst);
        all.holds(terms, "the DECIDING one, whose TYPES are DISTINCT,", FormSentences::deciding);
        all.holds(terms, "all before it being the same (TYPE,", FormSentences::sameType);
        all.holds(terms, "of an enum the same WORDS in the same order,", FormSentences::sameWords);
        all.holds(terms, "and whether optional or VARIADIC, or not).", FormSentences::sameOptional);
        all.holds(terms, "With more than two it must be the same one for all that can be called with n.",
                FormSentences::moreThanTwo);
        all.holds(terms, "VALUES are undefined, null, a boolean, a number (a double),", FormSentences::plainValues);
        all.holds(terms, "a text of up to twelve characters (1 .. 255),", FormSentences::texts);
        all.holds(terms, "or a LIST of up to five VALUES", FormSentences::five);
        all.holds(terms, "that are no LIST.", FormSentences::noListInAList);
        all.holds(terms, "SLOTS 0 .. 7 have one each,", FormSentences::eightSlots);
        all.holds(terms, "undefined at first.", FormSentences::undefinedAtFirst);
        all.holds(terms, "A call has n of them, from SLOT 0 on,", FormSentences::firstSlots);
        all.holds(terms, "n up to 8.", FormSentences::nUpToEight);
    }

    private static void oneSort(String[] types) {
        for (String one : types) {
            for (String other : types) {
                Expect.same(1, "a(" + one + ")", "a(" + other + ")");
                Expect.same(1, "a(" + one + "?)", "a(" + other + ")");
                Expect.same(2, "a(any," + one + ")", "a(any," + other + ")");
            }
            for (String[] sort : SORTS) {
                if (sort != types) {
                    Expect.told("a(" + one + ")", "a(" + sort[0] + ")");
                    Expect.told("a(" + sort[0] + ")", "a(" + one + ")");
                }
            }
        }
    }

    private static void neitherAny() {
        for (String[] sort : SORTS) {
            Expect.same(1, "a(any)", "a(" + sort[0] + ")");
            Expect.same(1, "a(" + sort[0] + ")", "a(any)");
            Expect.same(1, "a(" + sort[0] + "?)", "a(any)");
            Expect.same(2, "a(long," + sort[0] + ")", "a(long,any)");
        }
        Expect.same(1, "a(any)", "a(any)");
        // A list of any is not any.
        Expect.told("a(long)", "a(list<any>)");
    }

    private static void notBothNullable() {
        for (String[] one : SORTS) {
            for (String[] other : SORTS) {
                if (one != other) {
                    Expect.told("a(" + one[0] + ")", "a(" + other[0] + ")");
                    Expect.told("a(" + one[0] + "?)", "a(" + other[0] + ")");
                    Expect.told("a(" + one[0] + ")", "a(" + other[0] + "?)");
                    Expect.same(1, "a(" + one[0] + "?)", "a(" + other[0] + "?)");
                    Expect.same(2, "a(any," + one[0] + "?)", "a(any," + other[0] + "?)");
                }
            }
        }
        // A list of NULLABLE VALUES is not NULLABLE for that.
        Expect.told("a(list<long?>)", "a(string?)");
        Expect.told("a(long?)", "a(string)", "a(boolean)", "a(list<any>)");
        Expect.same(1, "a(long?)", "a(string)", "a(boolean)", "a(list<any>?)");
    }

    private static void sorts() {
        for (String[] one : SORTS) {
            for (String[] other : SORTS) {
                for (String type : one) {
                    for (String otherType : other) {
                        if (one == other) {
                            Expect.same(1, "a(" + type + ")", "a(" + otherType + ")");
                        } else {
                            Expect.told("a(" + type + ")", "a(" + otherType + ")");
                        }
                    }
                }
            }
        }
        Expect.told("a(boolean)", "a(long)", "a(string)", "a(list<any>)");
    }

    private static void sixForms() {
        String[] arguments = {"", "long", "string", "boolean", "list<any>", "long,any"};
        for (char letter = 'a'; letter <= 'f'; letter++) {
            IdlCaller x = new IdlCaller();
            int operation = letter - 'a';
            for (int i = 0; i < 6; i++) {
                Check.due("define", Check.define(x, letter + "(" + arguments[i] + ")"), i);
                Check.due("FORMS", x.operation(operation, 0), i + 1);
            }
            Check.due("define of a seventh", Check.define(x, letter + "(any,any,any)"), IdlCaller.FULL);
            Check.due("FORMS", x.operation(operation, 0), 6);
            Check.due("call of what is no FORM", x.call(operation, 3), 5);
            x.simple(0, 3);
            Check.due("call of the fourth", x.call(operation, 1), 3);
        }
    }

    private static void asManyAsItHas() {
        for (int count = 0; count <= 5; count++) {
            IdlCaller x = Check.with("a(" + "any,".repeat(Math.max(0, count - 1)) + (count > 0 ? "any" : "") + ")");
            Check.due("most", x.operation(0, 1), count);
            Check.due("least", x.operation(0, 2), count);
            for (int n = 0; n <= count; n++) {
                Check.due("call with " + n + " of " + count, x.call(0, n), n == count ? 0 : IdlCaller.KIND);
                Check.due("place", x.place(), n == count ? NONE : n);
            }
        }
    }

    private static void lessByOptional() {
        least(0, "a(optional any)");
        least(0, "a(any...)");
        least(1, "a(any,optional any)");
        least(1, "a(any,any...)");
        least(2, "a(any,any)");
        least(0, "a(optional any,optional any,any...)");
        least(3, "a(any,any,any,optional any,any...)");
        least(1, "a(any,optional any,optional any,optional any,optional any)");
        least(4, "a(any,long?,any,any,any...)");
        // A NULLABLE one at the end is not left out.
        least(2, "a(any,long?)");
        Expect.same(0, "a()", "a(optional long)");
        Expect.same(0, "a(string...)", "a(optional long)");
        Expect.told("a()", "a(any,optional long)");
        Expect.same(1, "a(string)", "a(string,optional long)");
        Expect.told("a(any)", "a(any,any,optional long)");
    }

    private static void least(int least, String form) {
        IdlCaller x = Check.with(form);
        Check.due("least of " + form, x.operation(0, 2), least);
        Check.due("call with the least of " + form, x.call(0, least), 0);
        if (least > 0) {
            Check.due("call with less of " + form, x.call(0, least - 1), IdlCaller.KIND);
            Check.due("place", x.place(), least - 1);
        }
    }

    private static void againAndAgain() {
        IdlCaller x = Check.with("a(string,[E]octet...)");
        Check.tell(x, 0, "x");
        for (int i = 1; i < 8; i++) {
            x.number(i, 10 * i);
        }
        Check.due("call", x.call(0, 5), 0);
        Check.dueText("each to the TYPE of the VARIADIC one", Check.showAll(x), "'x'; w10; w20; w30; w40");
        x.number(4, 256);
        Check.due("call", x.call(0, 5), IdlCaller.KIND);
        Check.due("place", x.place(), 4);
        Check.due("call with one less", x.call(0, 4), 0);
        Expect.same(1, "a(long)", "a(long...)");
        Expect.same(5, "a(long,long,long,long,long)", "a(long...)");
        Expect.told("a(long,long,string)", "a(boolean...)");
        IdlCaller one = Check.with("a(long)");
        Check.due("without a VARIADIC one there are no more", one.operation(0, 1), 1);
    }

    private static void upToEight() {
        for (String form : new String[] {"a(any...)", "a(any,any...)", "a(any,any,any,any,any...)"}) {
            IdlCaller x = Check.with(form);
            Check.due("most of " + form, x.operation(0, 1), 8);
            Check.due("call of " + form, x.call(0, 8), 0);
            Check.due("the eighth place", x.kind(7), 0);
            Check.due("no ninth place", x.kind(8), NONE);
        }
        IdlCaller two = Check.with("a(long,any...)", "a(string,any,any...)");
        Check.due("DECIDING with 7", two.operation(0, 3 + 7), 0);
        Check.due("DECIDING with 8", two.operation(0, 3 + 8), 0);
    }

    private static void withOneN() {
        Expect.same(0, "a()", "a()");
        Expect.same(1, "a(long)", "a(long)");
        Expect.told("a()", "a(long)", "a(long,long)", "a(long,long,long)", "a(long,long,long,long)",
                "a(long,long,long,long,long)");
        Expect.told("a(long,optional long)", "a()", "a(long,long,long)");
        Expect.same(1, "a(long,optional long)", "a(long)");
        Expect.same(2, "a(long,optional long)", "a(long,long)");
        Expect.same(3, "a(any,any,any)", "a(any,any,any,optional any)");
        Expect.same(5, "a(any,any,any,any,any)", "a(any,any,any,any,any)");
        // FORMS of different OPERATIONS need not be told from one another.
        IdlCaller x = Check.with("a(long)", "b(long)", "f(long)");
        Check.due("b", x.operation(1, 0), 1);
    }

    private static void ofTheFirst() {
        Expect.same(1, "a(long,optional string)", "a(long,optional boolean)");
        Expect.same(0, "a(optional long)", "a(optional string)");
        Expect.same(0, "a(long...)", "a(string...)");
        Expect.same(1, "a(any,long...)", "a(any,optional string)");
        Expect.same(1, "a(any,long...)", "a(any,string...)");
        Expect.told("a(any,string)", "a(any,optional long)");
        Expect.told("a(any,any,any,any,string)", "a(any,any,any,any,long)");
        IdlCaller x = Check.with("a(any,any,any,any,string)", "a(any,any,any,any,long)");
        Check.due("the last one of the first 5", x.operation(0, 3 + 5), 4);
        Check.due("the first one", Check.with("a(string)", "a(long)").operation(0, 3 + 1), 0);
    }

    private static void deciding() {
        Expect.told("a(string,any)", "a(long,any)");
        Expect.told("a(any,string)", "a(any,long)");
        Expect.same(2, "a(any,string)", "a(any,enum(x))");
        IdlCaller first = Check.with("a(string,string)", "a(long,long)");
        Check.due("the first of two that are DISTINCT", first.operation(0, 3 + 2), 0);
        IdlCaller second = Check.with("a(long,string)", "a(long,long)");
        Check.due("the second one", second.operation(0, 3 + 2), 1);
        // Behind the DECIDING one all is free.
        Expect.told("a(string,long)", "a(long,long)", "a(boolean,list<any>)");
        IdlCaller more = Check.with("a(string,any...)", "a(long,long,long)");
        int[] due = {NONE, NONE, NONE, 0, NONE, NONE};
        for (int n = 0; n < due.length; n++) {
            Check.due("with " + n, more.operation(0, 3 + n), due[n]);
        }
    }

    private static void sameType() {
        Expect.told("a(long,string)", "a(long,boolean)");
        Expect.told("a([C]byte?,list<long?>?,string)", "a([C]byte?,list<long?>?,boolean)");
        for (String other : new String[] {"short", "double", "[C]long", "[E]long", "long?", "any"}) {
            Expect.same(2, "a(long,string)", "a(" + other + ",boolean)");
            Expect.same(2, "a(" + other + ",string)", "a(long,boolean)");
            Expect.same(3, "a(any,long,string)", "a(any," + other + ",boolean)");
        }
        Expect.same(2, "a([C]long,string)", "a([E]long,boolean)");
        Expect.same(2, "a(string,string)", "a(enum(x),boolean)");
        for (String other : new String[] {"list<short>", "list<long?>", "list<[C]long>", "list<any>", "list<long>?"}) {
            Expect.same(2, "a(list<long>,string)", "a(" + other + ",boolean)");
            Expect.same(2, "a(" + other + ",string)", "a(list<long>,boolean)");
        }
        Expect.same(3, "a(long,any,string)", "a(short,any,boolean)");
    }

    private static void sameWords() {
        Expect.told("a(enum(x,y),string)", "a(enum(x,y),boolean)");
        Expect.told("a(enum(v,w,x,y,z)?,string)", "a(enum(v,w,x,y,z)?,boolean)");
        Expect.same(2, "a(enum(x,y),string)", "a(enum(y,x),boolean)");
        Expect.same(2, "a(enum(x,y),string)", "a(enum(x),boolean)");
        Expect.same(2, "a(enum(x),string)", "a(enum(x,y),boolean)");
        Expect.same(2, "a(enum(x),string)", "a(enum(y),boolean)");
        Expect.same(2, "a(enum(v,w,x,y,z),string)", "a(enum(v,w,x,y,a),boolean)");
        Expect.same(2, "a(enum(abcdefgh),string)", "a(enum(abcdefgi),boolean)");
        Expect.told("a(list<enum(x,y)>,string)", "a(list<enum(x,y)>,boolean)");
        Expect.same(2, "a(list<enum(x,y)>,string)", "a(list<enum(y,x)>,boolean)");
        Expect.same(2, "a(list<enum(x)>,string)", "a(list<enum(x,y)>,boolean)");
    }

    private static void sameOptional() {
        Expect.same(2, "a(long,string)", "a(optional long,optional boolean)");
        Expect.same(2, "a(optional long,optional string)", "a(long,boolean)");
        Expect.same(2, "a(string,long)", "a(string...)");
        Expect.same(3, "a(any,any,string)", "a(any,optional any,optional long)");
        Expect.told("a(any,any,string)", "a(any,any,optional long)");
        // Of two VARIADIC ones the one before is the same, too.
        IdlCaller x = Check.with("a(string,long...)", "a(boolean,long...)");
        Check.due("DECIDING with 8", x.operation(0, 3 + 8), 0);
    }

    private static void moreThanTwo() {
        Expect.told("a(any,long)", "a(any,string)", "a(any,boolean)", "a(any,list<any>)");
        Expect.same(2, "a(long,long)", "a(long,string)", "a(string,long)");
        Expect.same(2, "a(string,long)", "a(long,long)", "a(long,string)");
        Expect.same(3, "a(any,any,long)", "a(any,any,string)", "a(any,any,boolean)", "a(any,any,octet)");
        Expect.same(3, "a(any,long,long)", "a(any,long,string)", "a(any,list<any>,boolean)");
        Expect.same(1, "a(long)", "a(string)", "a(boolean)", "a(enum(x))");
        // Only those that can be called with n must have it.
        Expect.told("a(long,long)", "a(long,string)", "a(string)", "a(string,long,long)", "a(boolean,long,long)");
        IdlCaller x = Check.with("a(long,long)", "a(long,string)", "a(string)", "a(boolean)");
        Check.due("with 1", x.operation(0, 3 + 1), 0);
        Check.due("with 2", x.operation(0, 3 + 2), 1);
    }

    private static void plainValues() {
        IdlCaller x = Check.with("a(any...)");
        Expect.takes(x, 0, "null; false; true; d-0.125; 'x'; []; null", null, false, true, -0.125, "x", Expect.list(),
                null);
        Expect.becomes("any", UNDEFINED, "undefined");
        Expect.becomes("any", 2147483648.0, "d2.147483648E9");
    }

    private static void texts() {
        IdlCaller x = Check.with("a(any)");
        for (int length = 0; length <= 12; length++) {
            String text = "\u0001\u00ff\u007f\u0080aZ 09,.~".substring(0, length);
            Check.due("text of " + length, Check.tell(x, 0, text), length);
            Check.due("call", x.call(0, 1), 0);
            Check.dueText("text of " + length, Check.show(x, 0), "'" + text + "'");
        }
        for (int from = 1; from <= 255; from += 12) {
            StringBuilder text = new StringBuilder();
            for (int i = from; i < from + 12 && i <= 255; i++) {
                text.append((char) i);
            }
            Expect.becomes("any", text.toString(), "'" + text + "'");
            Expect.becomes("string", text.toString(), "'" + text + "'");
        }
    }

    private static void five() {
        Object[] values = {1.0, "two", null, true, UNDEFINED};
        for (int size = 0; size <= 5; size++) {
            IdlCaller x = Check.with("a(any)");
            Check.tellList(x, 0, java.util.Arrays.copyOf(values, size));
            Check.due("call", x.call(0, 1), 0);
            Check.due("size", x.whole(0, NONE), size);
            if (size < 5) {
                Check.due("one more", x.add(0, 7), size + 1);
            } else {
                Check.refusesState("a sixth", () -> x.add(0, 7));
            }
        }
        Expect.becomes("any", values, "[d1.0 'two' null true undefined]");
    }

    private static void noListInAList() {
        IdlCaller x = Check.with("a(any)");
        x.simple(0, 4);
        x.simple(1, 4);
        Check.refusesState("a LIST without VALUES", () -> x.add(0, 1));
        x.add(1, 2);
        Check.refusesState("a LIST with one", () -> x.add(0, 1));
        Check.refusesState("itself", () -> x.add(0, 0));
        Check.due("call", x.call(0, 1), 0);
        Check.dueText("as before", Check.show(x, 0), "[]");
    }

    private static void eightSlots() {
        IdlCaller x = Check.with("a(any...)");
        for (int slot = 0; slot < 8; slot++) {
            x.number(slot, slot + 0.5);
        }
        Check.due("call", x.call(0, 8), 0);
        Check.dueText("one each", Check.showAll(x), "d0.5; d1.5; d2.5; d3.5; d4.5; d5.5; d6.5; d7.5");
        for (int changed = 0; changed < 8; changed++) {
            x.simple(changed, 3);
            Check.due("call", x.call(0, 8), 0);
            for (int slot = 0; slot < 8; slot++) {
                Check.due("kind", x.kind(slot), slot <= changed ? 2 : 4);
            }
        }
        for (int slot : new int[] {-1, 8}) {
            Check.refusesArgument("no SLOT " + slot, () -> x.number(slot, 1));
        }
    }

    private static void undefinedAtFirst() {
        for (int slot = 1; slot < 8; slot++) {
            IdlCaller x = Check.with("a(list<any>)");
            x.simple(0, 4);
            Check.due("add", x.add(0, slot), 1);
            Check.due("call", x.call(0, 1), 0);
            Check.due("undefined", x.item(0, 0), 7);
        }
        IdlCaller any = Check.with("a(any,any,any,any,any)", "b(boolean...)", "c(string)");
        Check.due("call", any.call(0, 5), 0);
        for (int k = 0; k < 5; k++) {
            Check.due("undefined", any.kind(k), 7);
        }
        Check.due("call", any.call(1, 8), 0);
        for (int k = 0; k < 8; k++) {
            Check.due("MISSING", any.kind(k), 0);
        }
        Check.due("call", any.call(2, 1), 0);
        Check.dueText("TEXT", Check.show(any, 0), "'undefined'");
    }

    private static void firstSlots() {
        IdlCaller x = Check.with("a(any...)");
        for (int slot = 0; slot < 8; slot++) {
            x.number(slot, 1 + slot);
        }
        StringBuilder due = new StringBuilder();
        Check.due("call with 0", x.call(0, 0), 0);
        Check.dueText("none", Check.showAll(x), "missing");
        for (int n = 1; n <= 8; n++) {
            due.append(n > 1 ? "; " : "").append("d").append(n).append(".0");
            Check.due("call with " + n, x.call(0, n), 0);
            Check.dueText("the first " + n, Check.showAll(x), due.toString());
        }
        // What the SLOTS behind have is no matter.
        IdlCaller optional = Check.with("a([E]octet,optional [E]octet)");
        optional.number(0, 255);
        optional.number(1, 256);
        Check.due("call with 1", optional.call(0, 1), 0);
        Check.dueText("the first one", Check.showAll(optional), "w255; missing");
        Check.due("call with 2", optional.call(0, 2), IdlCaller.KIND);
    }

    private static void nUpToEight() {
        IdlCaller x = Check.with("a(any...)");
        for (int n = 0; n <= 8; n++) {
            Check.due("call with " + n, x.call(0, n), 0);
        }
        for (int n : new int[] {-1, 9, 16, Integer.MIN_VALUE, Integer.MAX_VALUE}) {
            Check.refusesArgument("call with " + n, () -> x.call(0, n));
        }
        IdlCaller none = new IdlCaller();
        Check.due("call without FORMS", none.call(0, 8), IdlCaller.KIND);
        Check.due("place", none.place(), 8);
        Check.refusesArgument("call with 9 without FORMS", () -> none.call(0, 9));
    }
}
