import java.math.BigDecimal;

/** What the Terms say of CONVERTING VALUES, of TEXT and of NUMBER. */
final class ConvertingSentences {
    private static final int NONE = IdlCaller.NONE;
    private static final Object UNDEFINED = Expect.UNDEFINED;
    private static final String REFUSED = Expect.REFUSED;
    private static final String[] WHOLE = {"byte", "octet", "short", "long"};
    private static final long[] LEAST = {-128, 0, -32768, -2147483648L};
    private static final long[] MOST = {127, 255, 32767, 2147483647L};
    private static final String[] ALL = {"boolean", "byte", "[C]octet", "[E]short", "long", "double", "string",
        "enum(x)", "list<long>"};

    private ConvertingSentences() {
    }

    static void tell(Sentences all) {
        String terms = "Terms";
        all.holds(terms, "CONVERTING, from SLOT 0 on, each to the TYPE there:", ConvertingSentences::fromFirst);
        all.holds(terms, "undefined where it is optional or VARIADIC is MISSING.", ConvertingSentences::missing);
        all.holds(terms, "Undefined and null where it is NULLABLE are NULL.", ConvertingSentences::nulls);
        all.holds(terms, "any: as it is at the call.", ConvertingSentences::any);
        all.holds(terms, "boolean: undefined, null, 0 and a text without characters are false, all else true.",
                ConvertingSentences::booleans);
        all.holds(terms, "string: its TEXT.", ConvertingSentences::strings);
        all.holds(terms, "enum: its TEXT, if it is one of the WORDS, else KIND.", ConvertingSentences::enums);
        all.holds(terms, "list: of a LIST, each VALUE of it converted likewise", ConvertingSentences::lists);
        all.holds(terms, "(none is MISSING);", ConvertingSentences::noneMissing);
        all.holds(terms, "of another VALUE KIND.", ConvertingSentences::noList);
        all.holds(terms, "double: its NUMBER, KIND if it has none.", ConvertingSentences::doubles);
        all.holds(terms, "Others: its NUMBER, 0 if it has none (with [E]: KIND):", ConvertingSentences::withoutNumber);
        all.holds(terms, "cut to a whole number (to 0),", ConvertingSentences::cut);
        all.holds(terms,
                "with [E] KIND if that is not in the bounds (byte -128 .. 127, octet 0 .. 255, short -32768 .. 32767,"
                + " long -2147483648 .. 2147483647),", ConvertingSentences::enforced);
        all.holds(terms, "else its remainder by 2^8, 2^16, 2^32 that is within them;", ConvertingSentences::remainder);
        all.holds(terms, "with [C] not cut but rounded, halves to the even one,", ConvertingSentences::rounded);
        all.holds(terms, "and at most, at least a bound.", ConvertingSentences::clamped);
        all.holds(terms, "TEXT: undefined and null as these words, true, false,", ConvertingSentences::words);
        all.holds(terms, "a number's digits as below,", ConvertingSentences::digits);
        all.holds(terms, "of a LIST those of its VALUES with , between", ConvertingSentences::textOfList);
        all.holds(terms, "(nothing for undefined and null).", ConvertingSentences::nothingFor);
        all.holds(terms, "NUMBER: of undefined none, of null 0, of a boolean 1 or 0,",
                ConvertingSentences::simpleNumbers);
        all.holds(terms, "of a text: blanks at both ends left out,", ConvertingSentences::blanksAtEnds);
        all.holds(terms, "nothing: 0;", ConvertingSentences::nothing);
        all.holds(terms, "0x (small) and hexadecimal digits (a .. f, A .. F),", ConvertingSentences::hexadecimal);
        all.holds(terms, "one to eight;", ConvertingSentences::oneToEight);
        all.holds(terms, "or perhaps + or -,", ConvertingSentences::plusOrMinus);
        all.holds(terms, "one or more digits, perhaps . and one or more digits", ConvertingSentences::decimal);
        all.holds(terms, "(the digits as a whole number, divided by a power of ten;", ConvertingSentences::divided);
        all.holds(terms, "- of 0 is 0);", ConvertingSentences::minusZero);
        all.holds(terms, "else none;", ConvertingSentences::elseNone);
        all.holds(terms, "of a LIST that of its TEXT.", ConvertingSentences::numberOfList);
        all.holds(terms, "A number's TEXT: perhaps -, its whole part,", ConvertingSentences::wholePart);
        all.holds(terms, "and if it has a fraction . and three digits of it, zeros at the end left out",
                ConvertingSentences::fraction);
        all.holds(terms, "(numbers that are told have no more).", ConvertingSentences::noMore);
    }

    private static void fromFirst() {
        IdlCaller x = Check.with("a(string,[E]octet,boolean,[E]octet,enum(x))");
        Expect.takes(x, 0, "'1'; w1; true; w1; 'x'", 1.0, 1.0, 1.0, 1.0, "x");
        // The first one that is refused is told.
        Expect.refuses(x, 1, -1.0, -1.0, -1.0, -1.0, "y");
        Expect.refuses(x, 3, -1.0, 0.0, -1.0, 256.0, "y");
        Expect.refuses(x, 4, -1.0, 0.0, -1.0, 255.0, "y");
        IdlCaller eight = Check.with("a([E]octet...)");
        for (int wrong = 0; wrong < 8; wrong++) {
            Object[] values = {0.0, 1.0, 2.0, 3.0, 4.0, 5.0, 6.0, 7.0};
            values[wrong] = 256.0;
            Expect.refuses(eight, wrong, values);
        }
    }

    private static void missing() {
        for (String type : ALL) {
            Expect.becomes("optional " + type, UNDEFINED, "missing");
            Expect.becomes(type + "...", UNDEFINED, "missing");
            // It goes before NULL.
            Expect.becomes("optional " + type + "?", UNDEFINED, "missing");
            Expect.becomes(type + "?...", UNDEFINED, "missing");
        }
        Expect.becomes("optional any", UNDEFINED, "missing");
        Expect.becomes("any...", UNDEFINED, "missing");
        Expect.becomes("any", UNDEFINED, "undefined");
        Expect.becomes("optional any", null, "null");
        Expect.becomes("any...", null, "null");
        Expect.becomes("optional string", null, "'null'");
        Expect.becomes("optional string", "", "''");
        Expect.becomes("string...", false, "'false'");
        Expect.becomes("string", UNDEFINED, "'undefined'");
        IdlCaller x = Check.with("a(string,string...)");
        Expect.takes(x, 0, "'undefined'; missing; 'x'; missing; 'null'", UNDEFINED, UNDEFINED, "x", UNDEFINED, null);
    }

    private static void nulls() {
        for (String type : ALL) {
            Expect.becomes(type + "?", UNDEFINED, "NULL");
            Expect.becomes(type + "?", null, "NULL");
            Expect.becomes("optional " + type + "?", null, "NULL");
            Expect.becomes(type + "?...", null, "NULL");
        }
        Expect.becomes("list<long?>", Expect.list(UNDEFINED, null, 0.0), "[NULL NULL w0]");
        Expect.becomes("list<string?>?", Expect.list(UNDEFINED, null), "[NULL NULL]");
        Expect.becomes("list<string>?", Expect.list(UNDEFINED, null), "['undefined' 'null']");
        Expect.becomes("list<long?>", null, REFUSED);
        Expect.becomes("boolean?", false, "false");
        Expect.becomes("boolean?", "", "false");
        Expect.becomes("long?", 0.0, "w0");
        Expect.becomes("string?", "", "''");
        Expect.becomes("string?", "null", "'null'");
        Expect.becomes("list<long>?", Expect.list(), "[]");
        Expect.becomes("string", null, "'null'");
    }

    private static void any() {
        Object[] values = {UNDEFINED, null, false, true, -0.125, "", "null", Expect.list(), Expect.list(UNDEFINED, null,
            true, 1.5, "x")};
        String[] due = {"undefined", "null", "false", "true", "d-0.125", "''", "'null'", "[]",
            "[undefined null true d1.5 'x']"};
        for (int i = 0; i < values.length; i++) {
            Expect.becomes("any", values[i], due[i]);
        }
        IdlCaller x = Check.with("a(any,any,any)", "b(list<any>)");
        Check.tellList(x, 0, 1.0, "two");
        Check.tell(x, 1, "three");
        x.number(2, 4);
        Check.due("call", x.call(0, 3), 0);
        x.add(0, 2);
        Check.tell(x, 1, "x");
        x.simple(2, 1);
        Check.dueText("as it was at the call", Check.showAll(x), "[d1.0 'two']; 'three'; d4.0");
        Check.due("call", x.call(0, 3), 0);
        Check.dueText("as it is at the next one", Check.showAll(x), "[d1.0 'two' d4.0]; 'x'; null");
        Check.due("call", x.call(1, 1), 0);
        x.simple(0, 4);
        x.add(0, 1);
        Check.dueText("in a list, too", Check.showAll(x), "[d1.0 'two' d4.0]");
    }

    private static void booleans() {
        for (Object value : new Object[] {UNDEFINED, null, 0.0, -0.0, "", false}) {
            Expect.becomes("boolean", value, "false");
            Expect.becomes("list<boolean>", Expect.list(value), "[false]");
        }
        for (Object value : new Object[] {0.125, -0.125, 1.0, -2147483648.0, " ", "0", "false", "undefined", "\u0001",
                true}) {
            Expect.becomes("boolean", value, "true");
            Expect.becomes("list<boolean>", Expect.list(value), "[true]");
        }
        for (Object value : new Object[] {Expect.list(), Expect.list(false), Expect.list(0.0), Expect.list(""),
                Expect.list(UNDEFINED)}) {
            Expect.becomes("boolean", value, "true");
        }
    }

    private static void strings() {
        Expect.becomes("string", "", "''");
        Expect.becomes("string", "x", "'x'");
        Expect.becomes("string", " twelve ones", "' twelve ones'");
        Expect.becomes("string", UNDEFINED, "'undefined'");
        Expect.becomes("string", true, "'true'");
        Expect.becomes("string", -1.5, "'-1.5'");
        Expect.becomes("string", Expect.list(1.0, "x"), "'1,x'");
        Expect.becomes("list<string>", Expect.list(1.5, "", null), "['1.5' '' 'null']");
    }

    private static void enums() {
        for (String word : new String[] {"a", "abcdefgh", "abcdefg", "null", "true"}) {
            Expect.becomes("enum(a,abcdefgh,abcdefg,null,true)", word, "'" + word + "'");
        }
        for (String other : new String[] {"", "b", "aa", "abcdef", "abcdefgi", "abcdefghi", "a ", " a", "A", "a,null",
                "abcdefghijkl", "undefined", "false", "\u0001"}) {
            Expect.becomes("enum(a,abcdefgh,abcdefg,null,true)", other, REFUSED);
        }
        // Nor what would be a WORD if each character counted by its distance from the letters.
        Expect.becomes("enum(a,ab,az)", "`a", REFUSED);
        Expect.becomes("enum(a,ab,az)", "bB", REFUSED);
        Expect.becomes("enum(a,ab,az)", "bZ", REFUSED);
        Expect.becomes("enum(a,null,true)", null, "'null'");
        Expect.becomes("enum(a,null,true)", true, "'true'");
        Expect.becomes("enum(a,null,true)", false, REFUSED);
        Expect.becomes("enum(a,null,true)", UNDEFINED, REFUSED);
        Expect.becomes("enum(a,null,true)", 0.0, REFUSED);
        Expect.becomes("enum(a,null,true)", Expect.list("a"), "'a'");
        Expect.becomes("enum(a,null,true)", Expect.list(), REFUSED);
        Expect.becomes("enum(a,null,true)", Expect.list((Object) null), REFUSED);
        Expect.becomes("enum(a,null,true)", Expect.list("a", "a"), REFUSED);
    }

    private static void lists() {
        Expect.becomes("list<[C]octet>", Expect.list(), "[]");
        Expect.becomes("list<[C]octet>", Expect.list(-1.0, 0.5, 300.0, "7", true), "[w0 w0 w255 w7 w1]");
        Expect.becomes("list<string>", Expect.list(-1.0), "['-1']");
        Expect.becomes("list<any>", Expect.list(-1.0, UNDEFINED), "[d-1.0 undefined]");
        Expect.becomes("list<boolean>", Expect.list("", "x"), "[false true]");
        Expect.becomes("list<enum(x,y)>", Expect.list("y", "x", "y"), "['y' 'x' 'y']");
        // One that is refused refuses the SLOT, wherever it is.
        for (int wrong = 0; wrong < 5; wrong++) {
            Object[] values = {0.0, 1.0, 2.0, 3.0, 4.0};
            values[wrong] = 256.0;
            Expect.becomes("list<[E]octet>", values, REFUSED);
            values[wrong] = 255.0;
            IdlCaller x = Check.with("a(any,list<[E]octet>)");
            Check.due("call", Expect.call(x, null, values), 0);
            Check.due("item", x.whole(1, wrong), 255);
            values[wrong] = -1.0;
            Expect.refuses(x, 1, null, values);
        }
    }

    private static void noneMissing() {
        Expect.becomes("optional list<any>", Expect.list(UNDEFINED), "[undefined]");
        Expect.becomes("list<any>...", Expect.list(UNDEFINED, UNDEFINED), "[undefined undefined]");
        Expect.becomes("optional list<long>", Expect.list(UNDEFINED), "[w0]");
        Expect.becomes("list<string>...", Expect.list(UNDEFINED), "['undefined']");
        Expect.becomes("optional list<long?>", Expect.list(UNDEFINED), "[NULL]");
        Expect.becomes("optional list<double>", Expect.list(UNDEFINED), REFUSED);
    }

    private static void noList() {
        for (Object value : new Object[] {UNDEFINED, null, false, true, 0.0, "", "x", "[]"}) {
            Expect.becomes("list<any>", value, REFUSED);
            Expect.becomes("list<string?>", value, REFUSED);
        }
        for (Object value : new Object[] {null, false, 0.0, ""}) {
            Expect.becomes("optional list<any>", value, REFUSED);
            Expect.becomes("list<any>...", value, REFUSED);
        }
        Expect.becomes("list<any>?", "", REFUSED);
        Expect.becomes("list<any>?", 0.0, REFUSED);
        Expect.becomes("list<any>", Expect.list(), "[]");
    }

    private static void doubles() {
        Expect.becomes("double", UNDEFINED, REFUSED);
        Expect.becomes("double", "x", REFUSED);
        Expect.becomes("double", Expect.list(1.0, 2.0), REFUSED);
        Expect.becomes("double", null, "d0.0");
        Expect.becomes("double", false, "d0.0");
        Expect.becomes("double", true, "d1.0");
        Expect.becomes("double", "", "d0.0");
        Expect.becomes("double", "-2.75", "d-2.75");
        Expect.becomes("double", -0.125, "d-0.125");
        Expect.becomes("double", 2147483648.0, "d2.147483648E9");
        Expect.becomes("double", -2147483648.0, "d-2.147483648E9");
        Expect.becomes("double", "999999999999", "d9.99999999999E11");
        Expect.becomes("list<double>", Expect.list("1.5", UNDEFINED), REFUSED);
    }

    private static void withoutNumber() {
        for (Object value : new Object[] {UNDEFINED, "x", "0x", "-", Expect.list(1.0, 2.0), Expect.list("x")}) {
            for (String type : WHOLE) {
                Expect.becomes(type, value, "w0");
                Expect.becomes("[C]" + type, value, "w0");
                Expect.becomes("[E]" + type, value, REFUSED);
            }
        }
        for (String type : WHOLE) {
            Expect.becomes("[E]" + type, null, "w0");
            Expect.becomes("[E]" + type, "", "w0");
            Expect.becomes("[E]" + type, Expect.list(), "w0");
            Expect.becomes(type, true, "w1");
        }
        Expect.becomes("list<[E]long>", Expect.list(UNDEFINED), REFUSED);
        Expect.becomes("list<long>", Expect.list(UNDEFINED), "[w0]");
    }

    private static void cut() {
        for (String type : new String[] {"short", "[E]short", "long", "[E]long"}) {
            for (int whole : new int[] {0, 1, 2, 99, 32766}) {
                for (double rest : new double[] {0, 0.125, 0.5, 0.875}) {
                    Expect.becomes(type, whole + rest, "w" + whole);
                    Expect.becomes(type, -whole - rest, "w" + -whole);
                }
            }
            Expect.becomes(type, "1.9999999999", "w1");
            Expect.becomes(type, "-1.999999999", "w-1");
        }
        Expect.becomes("octet", -0.875, "w0");
        Expect.becomes("[E]octet", -0.875, "w0");
    }

    private static void enforced() {
        for (int i = 0; i < WHOLE.length; i++) {
            String type = "[E]" + WHOLE[i];
            bound(type, MOST[i] - 1, true);
            bound(type, MOST[i], true);
            bound(type, MOST[i] + 1, false);
            bound(type, LEAST[i] + 1, true);
            bound(type, LEAST[i], true);
            bound(type, LEAST[i] - 1, false);
            bound(type, 0, true);
            // It is looked at when it is cut.
            Expect.becomes(type, MOST[i] + 0.875, "w" + MOST[i]);
            if (i < 3) {
                Expect.becomes(type, LEAST[i] - 0.875, "w" + LEAST[i]);
            }
            bound(type, MOST[i] + 1 + MOST[i] - LEAST[i], false);
        }
        Expect.becomes("[E]long", "0x7fffffff", "w2147483647");
        Expect.becomes("[E]long", "0x80000000", REFUSED);
        Expect.becomes("[E]long", "999999999999", REFUSED);
    }

    /** As a text, for not all of these can be told as numbers. */
    private static void bound(String type, long value, boolean within) {
        Expect.becomes(type, "" + value, within ? "w" + value : REFUSED);
        if (value >= -2147483648L && value <= 2147483648L) {
            Expect.becomes(type, (double) value, within ? "w" + value : REFUSED);
        }
    }

    private static void remainder() {
        for (int i = 0; i < WHOLE.length; i++) {
            long size = MOST[i] - LEAST[i] + 1;
            becomesWhole(WHOLE[i], MOST[i], MOST[i]);
            becomesWhole(WHOLE[i], MOST[i] + 1, LEAST[i]);
            becomesWhole(WHOLE[i], MOST[i] + 2, LEAST[i] + 1);
            becomesWhole(WHOLE[i], LEAST[i], LEAST[i]);
            becomesWhole(WHOLE[i], LEAST[i] - 1, MOST[i]);
            becomesWhole(WHOLE[i], LEAST[i] - 2, MOST[i] - 1);
            for (long times = -10; times <= 10; times++) {
                becomesWhole(WHOLE[i], times * size, 0);
                becomesWhole(WHOLE[i], times * size + 1, 1);
                becomesWhole(WHOLE[i], times * size + MOST[i], MOST[i]);
                becomesWhole(WHOLE[i], times * size + LEAST[i], LEAST[i]);
            }
            becomesWhole(WHOLE[i], 999999999999L, i == 1 ? 255 : i == 3 ? -727379969 : i == 0 ? -1 : 4095);
        }
        // It is cut before it wraps around.
        Expect.becomes("octet", 255.875, "w255");
        Expect.becomes("byte", 127.875, "w127");
        Expect.becomes("byte", -128.875, "w-128");
        Expect.becomes("octet", -1.125, "w255");
        Expect.becomes("octet", "-256.5", "w0");
        Expect.becomes("long", "4294967295.5", "w-1");
    }

    private static void becomesWhole(String type, long value, long due) {
        Expect.becomes(type, "" + value, "w" + due);
        if (value >= -2147483648L && value <= 2147483648L) {
            Expect.becomes(type, (double) value, "w" + due);
        }
    }

    private static void rounded() {
        for (String type : new String[] {"[C]short", "[C]long"}) {
            for (int even : new int[] {0, 2, 4, 100, 32766}) {
                rounds(type, even, 0.375, even);
                rounds(type, even, 0.5, even);
                rounds(type, even, 0.625, even + 1);
            }
            for (int odd : new int[] {1, 3, 101, 32765}) {
                rounds(type, odd, 0.375, odd);
                rounds(type, odd, 0.5, odd + 1);
                rounds(type, odd, 0.625, odd + 1);
            }
        }
        Expect.becomes("[C]long", "0.4999999999", "w0");
        Expect.becomes("[C]long", "0.5000000001", "w1");
        Expect.becomes("[C]long", "2.5000000001", "w3");
        Expect.becomes("[C]long", "1.4999999999", "w1");
        Expect.becomes("[C]long", "-2.500000001", "w-3");
        Expect.becomes("[C]long", 2147483646.5, "w2147483646");
        Expect.becomes("[C]long", 2147483645.5, "w2147483646");
        Expect.becomes("[C]octet", 254.5, "w254");
        Expect.becomes("[C]byte", -127.5, "w-128");
        Expect.becomes("[C]byte", 126.5, "w126");
        // Without [C] halves are cut.
        Expect.becomes("long", 1.5, "w1");
        Expect.becomes("[E]long", 1.5, "w1");
    }

    private static void rounds(String type, int whole, double rest, int due) {
        Expect.becomes(type, whole + rest, "w" + due);
        Expect.becomes(type, -whole - rest, "w" + -due);
    }

    private static void clamped() {
        for (int i = 0; i < WHOLE.length; i++) {
            String type = "[C]" + WHOLE[i];
            becomesWhole(type, MOST[i] - 1, MOST[i] - 1);
            becomesWhole(type, MOST[i], MOST[i]);
            becomesWhole(type, MOST[i] + 1, MOST[i]);
            becomesWhole(type, MOST[i] + 1000, MOST[i]);
            becomesWhole(type, LEAST[i] + 1, LEAST[i] + 1);
            becomesWhole(type, LEAST[i], LEAST[i]);
            becomesWhole(type, LEAST[i] - 1, LEAST[i]);
            becomesWhole(type, LEAST[i] - 1000, LEAST[i]);
            becomesWhole(type, 999999999999L, MOST[i]);
            becomesWhole(type, -99999999999L, LEAST[i]);
            Expect.becomes(type, MOST[i] + 0.5, "w" + MOST[i]);
            Expect.becomes(type, MOST[i] + 0.875, "w" + MOST[i]);
        }
        Expect.becomes("[C]octet", -0.875, "w0");
        Expect.becomes("[C]byte", -128.875, "w-128");
        Expect.becomes("[C]short", -32768.875, "w-32768");
    }

    private static void words() {
        Object[] values = {UNDEFINED, null, true, false};
        String[] words = {"undefined", "null", "true", "false"};
        for (int i = 0; i < values.length; i++) {
            Expect.becomes("string", values[i], "'" + words[i] + "'");
            Expect.becomes("list<string>", Expect.list(values[i]), "['" + words[i] + "']");
            Expect.becomes("enum(" + (i == 0 ? "x" : words[i]) + ")", values[i], i == 0 ? REFUSED
                    : "'" + words[i] + "'");
        }
        Expect.becomes("string", Expect.list(true, false), "'true,false'");
    }

    private static void digits() {
        double[] values = {0, 7, -7, 10, 0.5, -2147483647.875, 2147483648.0};
        String[] due = {"0", "7", "-7", "10", "0.5", "-2147483647.875", "2147483648"};
        for (int i = 0; i < values.length; i++) {
            Expect.becomes("string", values[i], "'" + due[i] + "'");
            Expect.becomes("string", Expect.list(values[i]), "'" + due[i] + "'");
            Expect.becomes("list<string>", Expect.list(values[i]), "['" + due[i] + "']");
        }
    }

    private static void textOfList() {
        Expect.becomes("string", Expect.list(), "''");
        Expect.becomes("string", Expect.list("x"), "'x'");
        Expect.becomes("string", Expect.list("x", "y"), "'x,y'");
        Expect.becomes("string", Expect.list("", ""), "','");
        Expect.becomes("string", Expect.list("", "", "", "", ""), "',,,,'");
        Expect.becomes("string", Expect.list(1.0, -0.5, true, "a,b", "c"), "'1,-0.5,true,a,b,c'");
        double longest = -2147483647.875;
        Expect.becomes("string", Expect.list(longest, longest, longest, longest, longest),
                "'-2147483647.875,-2147483647.875,-2147483647.875,-2147483647.875,-2147483647.875'");
        Expect.becomes("string", Expect.list("abcdefghijkl", "bcdefghijklm", "cdefghijklmn", "defghijklmno",
                "efghijklmnop"),
                "'abcdefghijkl,bcdefghijklm,cdefghijklmn,defghijklmno,efghijklmnop'");
    }

    private static void nothingFor() {
        Expect.becomes("string", Expect.list(UNDEFINED), "''");
        Expect.becomes("string", Expect.list((Object) null), "''");
        Expect.becomes("string", Expect.list(null, UNDEFINED), "','");
        Expect.becomes("string", Expect.list(UNDEFINED, "x", null), "',x,'");
        Expect.becomes("string", Expect.list(null, null, null, null, null), "',,,,'");
        Expect.becomes("string", Expect.list("null", "undefined"), "'null,undefined'");
        Expect.becomes("string", Expect.list(false, 0.0), "'false,0'");
    }

    private static void simpleNumbers() {
        Expect.becomes("double", UNDEFINED, REFUSED);
        Expect.becomes("double", null, "d0.0");
        Expect.becomes("double", true, "d1.0");
        Expect.becomes("double", false, "d0.0");
        Expect.becomes("[E]octet", UNDEFINED, REFUSED);
        Expect.becomes("[E]octet", null, "w0");
        Expect.becomes("[E]octet", true, "w1");
        Expect.becomes("[E]octet", false, "w0");
        Expect.becomes("list<double>", Expect.list(null, true, false), "[d0.0 d1.0 d0.0]");
        Expect.becomes("list<double>", Expect.list(UNDEFINED), REFUSED);
        // Those of a LIST are told by its TEXT: true is no NUMBER there, and undefined is nothing.
        Expect.becomes("double", Expect.list(true), REFUSED);
        Expect.becomes("double", Expect.list(UNDEFINED), "d0.0");
    }

    private static void number(String text, String due) {
        Expect.becomes("double", text, due);
        Expect.becomes("double", Expect.list(text), due);
        Expect.becomes("list<double>", Expect.list(text), due.equals(REFUSED) ? REFUSED : "[" + due + "]");
    }

    private static void blanksAtEnds() {
        number(" 5", "d5.0");
        number("5 ", "d5.0");
        number("    -5.5    ", "d-5.5");
        number("           5", "d5.0");
        number("5           ", "d5.0");
        number(" 0x1f ", "d31.0");
        number("5 5", REFUSED);
        number("- 5", REFUSED);
        number("5. 5", REFUSED);
        number("0x 1", REFUSED);
        for (char other : new char[] {1, 9, 10, 13, 31, 33, 160, 255}) {
            number(other + "5", REFUSED);
            number("5" + other, REFUSED);
        }
    }

    private static void nothing() {
        number("", "d0.0");
        number(" ", "d0.0");
        number("            ", "d0.0");
        number("\t", REFUSED);
        number("\u00a0", REFUSED);
        Expect.becomes("[E]octet", " ", "w0");
        Expect.becomes("double", Expect.list("", ""), REFUSED);
    }

    private static void hexadecimal() {
        String digits = "0123456789abcdef";
        for (int i = 0; i < 16; i++) {
            number("0x" + digits.charAt(i), "d" + i + ".0");
            number("0x" + digits.toUpperCase().charAt(i), "d" + i + ".0");
            number("0x1" + digits.charAt(i), "d" + (16 + i) + ".0");
        }
        number("0xaBcD", "d43981.0");
        number("0X1", REFUSED);
        number("1x1", REFUSED);
        number("00x1", REFUSED);
        number("x1", REFUSED);
        number("-0x1", REFUSED);
        number("+0x1", REFUSED);
        number("0x-1", REFUSED);
        number("0x1.5", REFUSED);
        for (char other : new char[] {'g', '`', 'G', '@', '/', ':', ' ', 'x', '.'}) {
            number("0x" + other, REFUSED);
            number("0x1" + other + "1", REFUSED);
            number("0x" + other + "1", REFUSED);
        }
    }

    private static void oneToEight() {
        number("0x", REFUSED);
        number("0x  ", REFUSED);
        number("0xf", "d15.0");
        number("0xfffffff", "d2.68435455E8");
        number("0xffffffff", "d4.294967295E9");
        number("0x80000000", "d2.147483648E9");
        number("0x00000001", "d1.0");
        number("0x000000001", REFUSED);
        number("0x123456789", REFUSED);
        number("0x1234567890", REFUSED);
        Expect.becomes("long", "0xffffffff", "w-1");
    }

    private static void plusOrMinus() {
        number("+5", "d5.0");
        number("-5", "d-5.0");
        number("5", "d5.0");
        number("+0.5", "d0.5");
        number("-0.5", "d-0.5");
        for (String none : new String[] {"+", "-", "++5", "--5", "+-5", "-+5", "5-", "5+", "*5", ",5", "/5", "5-5",
                "+ 5", "-.5", "+.5"}) {
            number(none, REFUSED);
        }
    }

    private static void decimal() {
        number("0", "d0.0");
        number("9", "d9.0");
        number("007", "d7.0");
        number("0123456789", "d1.23456789E8");
        number("0.0", "d0.0");
        number("9.9", "d9.9");
        number("5.250", "d5.25");
        number("1.0000000000", "d1.0");
        number("5.", REFUSED);
        number(".5", REFUSED);
        number(".", REFUSED);
        number("5..5", REFUSED);
        number("5.5.5", REFUSED);
        number("5,5", REFUSED);
        number("5.5.", REFUSED);
        number("5.+5", REFUSED);
        for (char other : new char[] {'/', ':', 'a', 'e', 'E', 'd', 'L', '_', '\''}) {
            number("5" + other, REFUSED);
            number("5" + other + "5", REFUSED);
            number("" + other, REFUSED);
            number("5." + other, REFUSED);
            number("5.5" + other, REFUSED);
        }
    }

    private static void divided() {
        String[] texts = {"0.1", "0.3", "0.7", "1.005", "2.675", "0.0000000001", "9.9999999999", "123456.78901",
            "12345.678901", "99999999.999", "0.1234567891", "1234567890.1", "-0.1", "-3.333333333", "+0.57",
            "999999999999"};
        for (String text : texts) {
            int point = text.indexOf('.');
            int behind = point < 0 ? 0 : text.length() - point - 1;
            double due = Long.parseLong(text.replace(".", "")) / new BigDecimal(10).pow(behind).doubleValue();
            number(text, "d" + due);
        }
    }

    private static void minusZero() {
        for (String text : new String[] {"-0", "-0.0", "-000", "-0.00000000", " -0 "}) {
            IdlCaller x = Check.with("a(double)");
            Check.tell(x, 0, text);
            Check.due("call", x.call(0, 1), 0);
            Check.due("the bits of " + text, Double.doubleToRawLongBits(x.real(0, NONE)), 0);
            Expect.becomes("long", text, "w0");
            Expect.becomes("[E]octet", text, "w0");
            Expect.becomes("[C]octet", text, "w0");
        }
    }

    private static void elseNone() {
        for (String text : new String[] {"x", "true", "null", "undefined", "Infinity", "-Infinity", "NaN", "1e3", "1E3",
                "0b1", "0o7", "5f", "1,000", "1_000", "five", "$5", "5%", "\u00b2", "\u00bd"}) {
            number(text, REFUSED);
            Expect.becomes("long", text, "w0");
            Expect.becomes("[E]long", text, REFUSED);
        }
    }

    private static void numberOfList() {
        Expect.becomes("double", Expect.list(), "d0.0");
        Expect.becomes("double", Expect.list(5.5), "d5.5");
        Expect.becomes("double", Expect.list(-2147483647.875), "d-2.147483647875E9");
        Expect.becomes("double", Expect.list(2147483648.0), "d2.147483648E9");
        Expect.becomes("double", Expect.list(" 0x1f "), "d31.0");
        Expect.becomes("double", Expect.list((Object) null), "d0.0");
        Expect.becomes("double", Expect.list(true), REFUSED);
        Expect.becomes("double", Expect.list("x"), REFUSED);
        Expect.becomes("double", Expect.list(1.0, 2.0), REFUSED);
        Expect.becomes("double", Expect.list(null, null), REFUSED);
        Expect.becomes("double", Expect.list(5.0, UNDEFINED), REFUSED);
        Expect.becomes("[E]octet", Expect.list(255.0), "w255");
        Expect.becomes("[E]octet", Expect.list(256.0), REFUSED);
        // It is that of the LIST as it is at the call.
        IdlCaller x = Check.with("a(long)");
        Check.tellList(x, 0, 5.0);
        Check.due("call", x.call(0, 1), 0);
        Check.due("of one", x.whole(0, NONE), 5);
        x.add(0, 7);
        Check.due("call", x.call(0, 1), 0);
        Check.due("of two", x.whole(0, NONE), 0);
        x.simple(0, 4);
        x.add(0, 7);
        Check.due("call", x.call(0, 1), 0);
        Check.due("of one again", x.whole(0, NONE), 5);
    }

    private static void text(double value, String due) {
        Expect.becomes("string", value, "'" + due + "'");
        Expect.becomes("string", -value, "'" + (value == 0 ? "" : "-") + due + "'");
    }

    private static void wholePart() {
        text(0, "0");
        text(0.5, "0.5");
        long[] wholes = {1, 9, 10, 11, 99, 100, 101, 999, 1000, 99999, 100000, 1000000, 10000000, 100000000, 999999999,
            1000000000, 1000000001, 1234567890, 2000000000, 2147483646, 2147483647};
        for (long whole : wholes) {
            text(whole, "" + whole);
            text(whole + 0.5, whole + ".5");
        }
        text(2147483648.0, "2147483648");
    }

    private static void fraction() {
        String[] eighths = {"", ".125", ".25", ".375", ".5", ".625", ".75", ".875"};
        for (long whole : new long[] {0, 1, 10, 100, 2147483647}) {
            for (int i = whole == 0 ? 1 : 0; i < 8; i++) {
                text(whole + i / 8.0, whole + eighths[i]);
            }
        }
    }

    private static void noMore() {
        IdlCaller x = Check.with("a(string)");
        x.number(0, 0.125);
        for (double more : new double[] {0.0625, 0.1875, 0.9375, 0.1, 0.001, 1.0 / 3}) {
            Check.refusesArgument("number " + more, () -> x.number(0, more));
            Check.refusesArgument("number " + -more, () -> x.number(0, -more));
        }
        Check.due("call", x.call(0, 1), 0);
        Check.dueText("TEXT", Check.show(x, 0), "'0.125'");
    }
}
