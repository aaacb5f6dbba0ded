/** Promises 11 and 13 to 17: what VALUES are converted to, and what is asked of it. */
public final class ConvertTest {
    private static final int NONE = IdlCaller.NONE;
    private static final Object UNDEFINED = Expect.UNDEFINED;
    private static final String REFUSED = Expect.REFUSED;

    public static void main(String[] args) {
        booleans();
        texts();
        enums();
        doubles();
        numbersOfTexts();
        numbersOfLists();
        wrapped();
        enforced();
        clamped();
        nullables();
        lists();
        anything();
        snapshot();
        asking();
        Check.end("ConvertTest");
    }

    private static void booleans() {
        Expect.becomes("boolean", UNDEFINED, "false");
        Expect.becomes("boolean", null, "false");
        Expect.becomes("boolean", false, "false");
        Expect.becomes("boolean", true, "true");
        Expect.becomes("boolean", 0.0, "false");
        Expect.becomes("boolean", -0.0, "false");
        Expect.becomes("boolean", 0.125, "true");
        Expect.becomes("boolean", -1.0, "true");
        Expect.becomes("boolean", "", "false");
        Expect.becomes("boolean", " ", "true");
        Expect.becomes("boolean", "0", "true");
        Expect.becomes("boolean", "false", "true");
        Expect.becomes("boolean", Expect.list(), "true");
        Expect.becomes("boolean", Expect.list(0.0), "true");
    }

    private static void texts() {
        Expect.becomes("string", UNDEFINED, "'undefined'");
        Expect.becomes("string", null, "'null'");
        Expect.becomes("string", true, "'true'");
        Expect.becomes("string", false, "'false'");
        Expect.becomes("string", "a text of 12", "'a text of 12'");
        Expect.becomes("string", "", "''");
        Expect.becomes("string", 0.0, "'0'");
        Expect.becomes("string", -0.0, "'0'");
        Expect.becomes("string", 7.0, "'7'");
        Expect.becomes("string", -7.0, "'-7'");
        Expect.becomes("string", 10.0, "'10'");
        Expect.becomes("string", 1000000.0, "'1000000'");
        Expect.becomes("string", 0.5, "'0.5'");
        Expect.becomes("string", -0.5, "'-0.5'");
        Expect.becomes("string", 0.125, "'0.125'");
        Expect.becomes("string", 0.25, "'0.25'");
        Expect.becomes("string", 0.375, "'0.375'");
        Expect.becomes("string", 0.625, "'0.625'");
        Expect.becomes("string", 0.75, "'0.75'");
        Expect.becomes("string", -100.875, "'-100.875'");
        Expect.becomes("string", 2147483648.0, "'2147483648'");
        Expect.becomes("string", -2147483648.0, "'-2147483648'");
        Expect.becomes("string", -2147483647.875, "'-2147483647.875'");
        Expect.becomes("string", Expect.list(), "''");
        Expect.becomes("string", Expect.list(null, UNDEFINED), "','");
        Expect.becomes("string", Expect.list(1.5, null, "x,y", true, UNDEFINED), "'1.5,,x,y,true,'");
        Expect.becomes("string", Expect.list(UNDEFINED), "''");
        Expect.becomes("string", Expect.list(-2147483647.875, -2147483647.875, -2147483647.875, -2147483647.875, -2147483647.875),
                "'-2147483647.875,-2147483647.875,-2147483647.875,-2147483647.875,-2147483647.875'");
    }

    private static void enums() {
        Expect.becomes("enum(red,green)", "red", "'red'");
        Expect.becomes("enum(red,green)", "green", "'green'");
        Expect.becomes("enum(red,green)", "blue", REFUSED);
        Expect.becomes("enum(red,green)", "re", REFUSED);
        Expect.becomes("enum(red,green)", "redd", REFUSED);
        Expect.becomes("enum(red,green)", " red", REFUSED);
        Expect.becomes("enum(red,green)", "Red", REFUSED);
        Expect.becomes("enum(red,green)", "", REFUSED);
        Expect.becomes("enum(red,green)", "redgreenblue", REFUSED);
        Expect.becomes("enum(true,null)", true, "'true'");
        Expect.becomes("enum(true,null)", false, REFUSED);
        Expect.becomes("enum(true,null)", null, "'null'");
        Expect.becomes("enum(true,null)?", null, "NULL");
        Expect.becomes("enum(true,null)", UNDEFINED, REFUSED);
        Expect.becomes("enum(true,null)", 1.0, REFUSED);
        Expect.becomes("enum(abcdefgh)", "abcdefgh", "'abcdefgh'");
        Expect.becomes("enum(a)", "abcdefghij", REFUSED);
        Expect.becomes("enum(a)", "1", REFUSED);
        Expect.becomes("enum(a)", "`a", REFUSED);
        Expect.becomes("enum(az)", "bZ", REFUSED);
        Expect.becomes("enum(abcdefgh)", "abcdefghi", REFUSED);
        Expect.becomes("enum(red,green)", Expect.list("red"), "'red'");
        Expect.becomes("enum(red,green)", Expect.list("red", null), REFUSED);
        Expect.becomes("enum(a,b,c,d,e)", "e", "'e'");
        Expect.becomes("enum(a,b,c,d,e)", "f", REFUSED);
    }

    private static void doubles() {
        Expect.becomes("double", UNDEFINED, REFUSED);
        Expect.becomes("double", null, "d0.0");
        Expect.becomes("double", true, "d1.0");
        Expect.becomes("double", false, "d0.0");
        Expect.becomes("double", -1.125, "d-1.125");
        Expect.becomes("double", 2147483648.0, "d2.147483648E9");
        Expect.becomes("double", "2.75", "d2.75");
        Expect.becomes("double", "none", REFUSED);
        // The comparison of texts tells the two zeros apart.
        Expect.becomes("double", -0.0, "d-0.0");
        Expect.becomes("any", -0.0, "d-0.0");
        Expect.becomes("double", Expect.list(-0.0), "d0.0");
    }

    private static void numbersOfTexts() {
        String[][] due = {{"", "0.0"}, {"   ", "0.0"}, {" 5  ", "5.0"}, {"0", "0.0"}, {"-0", "0.0"}, {"-0.00", "0.0"},
            {"+0", "0.0"}, {"+5", "5.0"}, {"-5", "-5.0"}, {"007", "7.0"}, {"0.1", "0.1"}, {"-0.3", "-0.3"},
            {"3.14159265", "3.14159265"}, {"0.1234567891", "0.1234567891"}, {"999999999999", "9.99999999999E11"},
            {"-99999999999", "-9.9999999999E10"}, {"1.10", "1.1"}, {"0x0", "0.0"}, {"0x1f", "31.0"}, {"0xABCDEF", "1.1259375E7"},
            {"0xabcdef", "1.1259375E7"}, {"0xffffffff", "4.294967295E9"}, {" 0x1F ", "31.0"}, {"0x00000010", "16.0"}};
        for (String[] row : due) {
            Expect.becomes("double", row[0], "d" + row[1]);
        }
        String[] none = {"x", "+", "-", ".", "5.", ".5", "+.5", "-.5", "1.2.3", "1e3", "1,5", "- 5", "5 5", "+-5", "--5",
            "0x", "0X1", "0xg", "0x123456789", "-0x1", "+0x1", "0x 1", "0x-1", "0x1.5", "x1", "0x1x", "\t5", "5\t",
            "\u00a05", "true", "null", "Infinity", "5.a", "1..2", "1.+2", "/", ":", "0x@", "0xG", "0x`", "1:", "5-"};
        for (String text : none) {
            Expect.becomes("double", text, REFUSED);
            Expect.becomes("long", text, "w0");
            Expect.becomes("[C]long", text, "w0");
            Expect.becomes("[E]long", text, REFUSED);
        }
    }

    private static void numbersOfLists() {
        Expect.becomes("double", Expect.list(), "d0.0");
        IdlCaller x = Check.with("a(double, double, double)");
        Check.tell(x, 0, "5");
        Check.tell(x, 1, "");
        Check.tellList(x, 2, "7");
        Check.due("call", x.call(0, 3), 0);
        Check.dueText("each VALUE has a NUMBER of its own", Check.showAll(x), "d5.0; d0.0; d7.0");
        x.simple(2, 4);
        Check.tell(x, 0, "x");
        Check.due("call", x.call(0, 3), IdlCaller.KIND);
        Check.tell(x, 0, "-1");
        Check.due("call", x.call(0, 3), 0);
        Check.dueText("and a new one has no part of the last", Check.showAll(x), "d-1.0; d0.0; d0.0");
        Expect.becomes("double", Expect.list(UNDEFINED), "d0.0");
        Expect.becomes("double", Expect.list((Object) null), "d0.0");
        Expect.becomes("double", Expect.list(5.5), "d5.5");
        Expect.becomes("double", Expect.list(-2147483647.875), "d-2.147483647875E9");
        Expect.becomes("double", Expect.list(" 0x1f "), "d31.0");
        Expect.becomes("double", Expect.list("  "), "d0.0");
        Expect.becomes("double", Expect.list(true), REFUSED);
        Expect.becomes("double", Expect.list("x"), REFUSED);
        Expect.becomes("double", Expect.list(1.0, 2.0), REFUSED);
        Expect.becomes("double", Expect.list(null, null), REFUSED);
        Expect.becomes("double", Expect.list(1.0, UNDEFINED), REFUSED);
        Expect.becomes("long", Expect.list(1.0, 2.0), "w0");
        Expect.becomes("[E]octet", Expect.list(), "w0");
        Expect.becomes("[E]octet", Expect.list("1", "2"), REFUSED);
    }

    private static void wrapped() {
        Expect.becomes("byte", 127.0, "w127");
        Expect.becomes("byte", 128.0, "w-128");
        Expect.becomes("byte", -128.0, "w-128");
        Expect.becomes("byte", -129.0, "w127");
        Expect.becomes("byte", 255.875, "w-1");
        Expect.becomes("byte", -0.875, "w0");
        Expect.becomes("byte", 256.0, "w0");
        Expect.becomes("octet", 255.0, "w255");
        Expect.becomes("octet", 256.0, "w0");
        Expect.becomes("octet", -1.0, "w255");
        Expect.becomes("octet", -0.5, "w0");
        Expect.becomes("octet", -256.0, "w0");
        Expect.becomes("short", 32767.0, "w32767");
        Expect.becomes("short", 32768.0, "w-32768");
        Expect.becomes("short", -32769.0, "w32767");
        Expect.becomes("short", 65536.0, "w0");
        Expect.becomes("long", 2147483647.875, "w2147483647");
        Expect.becomes("long", 2147483648.0, "w-2147483648");
        Expect.becomes("long", -2147483648.0, "w-2147483648");
        Expect.becomes("long", "-2147483649", "w2147483647");
        Expect.becomes("long", "0xffffffff", "w-1");
        Expect.becomes("long", "4294967296", "w0");
        Expect.becomes("long", "-4294967297", "w-1");
        Expect.becomes("long", "999999999999", "w-727379969");
        Expect.becomes("long", "3.99", "w3");
        Expect.becomes("long", "-3.99", "w-3");
        Expect.becomes("long", UNDEFINED, "w0");
        Expect.becomes("long", null, "w0");
        Expect.becomes("long", true, "w1");
    }

    private static void enforced() {
        Expect.becomes("[E]byte", 127.875, "w127");
        Expect.becomes("[E]byte", 128.0, REFUSED);
        Expect.becomes("[E]byte", -128.875, "w-128");
        Expect.becomes("[E]byte", -129.0, REFUSED);
        Expect.becomes("[E]octet", 255.875, "w255");
        Expect.becomes("[E]octet", 256.0, REFUSED);
        Expect.becomes("[E]octet", -0.875, "w0");
        Expect.becomes("[E]octet", -1.0, REFUSED);
        Expect.becomes("[E]short", 32767.0, "w32767");
        Expect.becomes("[E]short", 32768.0, REFUSED);
        Expect.becomes("[E]short", -32768.0, "w-32768");
        Expect.becomes("[E]short", -32769.0, REFUSED);
        Expect.becomes("[E]long", 2147483647.875, "w2147483647");
        Expect.becomes("[E]long", 2147483648.0, REFUSED);
        Expect.becomes("[E]long", -2147483648.0, "w-2147483648");
        Expect.becomes("[E]long", "-2147483649", REFUSED);
        Expect.becomes("[E]long", "0x80000000", REFUSED);
        Expect.becomes("[E]long", UNDEFINED, REFUSED);
        Expect.becomes("[E]long", null, "w0");
        Expect.becomes("[E]long", false, "w0");
        Expect.becomes("[E]long?", UNDEFINED, "NULL");
    }

    private static void clamped() {
        Expect.becomes("[C]byte", 127.5, "w127");
        Expect.becomes("[C]byte", 500.0, "w127");
        Expect.becomes("[C]byte", -128.5, "w-128");
        Expect.becomes("[C]byte", -500.0, "w-128");
        Expect.becomes("[C]octet", -0.5, "w0");
        Expect.becomes("[C]octet", -7.0, "w0");
        Expect.becomes("[C]octet", 254.5, "w254");
        Expect.becomes("[C]octet", 255.5, "w255");
        Expect.becomes("[C]short", 40000.0, "w32767");
        Expect.becomes("[C]short", -40000.0, "w-32768");
        Expect.becomes("[C]long", 2147483648.0, "w2147483647");
        Expect.becomes("[C]long", "-99999999999", "w-2147483648");
        Expect.becomes("[C]long", 0.5, "w0");
        Expect.becomes("[C]long", 1.5, "w2");
        Expect.becomes("[C]long", 2.5, "w2");
        Expect.becomes("[C]long", 3.5, "w4");
        Expect.becomes("[C]long", -0.5, "w0");
        Expect.becomes("[C]long", -1.5, "w-2");
        Expect.becomes("[C]long", -2.5, "w-2");
        Expect.becomes("[C]long", -3.5, "w-4");
        Expect.becomes("[C]long", 2.375, "w2");
        Expect.becomes("[C]long", 2.625, "w3");
        Expect.becomes("[C]long", -2.375, "w-2");
        Expect.becomes("[C]long", -2.625, "w-3");
        Expect.becomes("[C]long", "0.4999999999", "w0");
        Expect.becomes("[C]long", "2.5000000001", "w3");
        Expect.becomes("[C]long", UNDEFINED, "w0");
        Expect.becomes("[C]long", null, "w0");
    }

    private static void nullables() {
        for (String type : new String[] {"boolean", "[C]byte", "[E]long", "double", "string", "enum(a)", "list<long>"}) {
            Expect.becomes(type + "?", UNDEFINED, "NULL");
            Expect.becomes(type + "?", null, "NULL");
            Expect.becomes("optional " + type + "?", UNDEFINED, "missing");
            Expect.becomes("optional " + type + "?", null, "NULL");
            Expect.becomes(type + "?...", UNDEFINED, "missing");
            Expect.becomes(type + "?...", null, "NULL");
            Expect.becomes("optional " + type, UNDEFINED, "missing");
        }
        Expect.becomes("boolean?", "", "false");
        Expect.becomes("double?", "", "d0.0");
        Expect.becomes("optional any", UNDEFINED, "missing");
        Expect.becomes("any...", UNDEFINED, "missing");
        Expect.becomes("optional any", null, "null");
        Expect.becomes("optional double", null, "d0.0");
        Expect.becomes("optional list<long>", null, REFUSED);
    }

    private static void lists() {
        Expect.becomes("list<long>", Expect.list(), "[]");
        Expect.becomes("list<long>", Expect.list(1.5, null, UNDEFINED, "12", true), "[w1 w0 w0 w12 w1]");
        Expect.becomes("list<long?>", Expect.list(1.5, null, UNDEFINED), "[w1 NULL NULL]");
        Expect.becomes("optional list<long>", Expect.list(UNDEFINED), "[w0]");
        Expect.becomes("list<string>...", Expect.list(UNDEFINED, null, -1.25), "['undefined' 'null' '-1.25']");
        Expect.becomes("list<boolean>", Expect.list(UNDEFINED, 0.0, "", " ", true), "[false false false true true]");
        Expect.becomes("list<double>", Expect.list("1.5", false, null), "[d1.5 d0.0 d0.0]");
        Expect.becomes("list<double>", Expect.list("1.5", UNDEFINED), REFUSED);
        Expect.becomes("list<double?>", Expect.list("1.5", UNDEFINED), "[d1.5 NULL]");
        Expect.becomes("list<enum(a,b)>", Expect.list("b", "a", "a"), "['b' 'a' 'a']");
        Expect.becomes("list<enum(a,b)>", Expect.list("b", "c"), REFUSED);
        Expect.becomes("list<[E]byte>", Expect.list(127.0, 128.0), REFUSED);
        Expect.becomes("list<[C]byte>", Expect.list(127.5, 128.0, -3.5), "[w127 w127 w-4]");
        Expect.becomes("list<any>", Expect.list(UNDEFINED, null, true, 2.5, "x"), "[undefined null true d2.5 'x']");
        for (Object value : new Object[] {UNDEFINED, null, true, false, 5.0, "", "x"}) {
            Expect.becomes("list<any>", value, REFUSED);
        }
        Expect.becomes("list<any>?", 5.0, REFUSED);
    }

    private static void anything() {
        Expect.becomes("any", UNDEFINED, "undefined");
        Expect.becomes("any", null, "null");
        Expect.becomes("any", true, "true");
        Expect.becomes("any", false, "false");
        Expect.becomes("any", -5.5, "d-5.5");
        Expect.becomes("any", "12", "'12'");
        Expect.becomes("any", Expect.list(), "[]");
        Expect.becomes("any", Expect.list(1.0, UNDEFINED, null, "x", false), "[d1.0 undefined null 'x' false]");
    }

    private static void snapshot() {
        IdlCaller x = Check.with("a(any, any, string)");
        Check.tellList(x, 0, 1.0, "two");
        Check.tell(x, 1, "text");
        x.number(2, 5);
        x.call(0, 3);
        String due = "[d1.0 'two']; 'text'; '5'";
        Check.tellList(x, 0, true);
        x.add(0, 1);
        x.simple(1, 0);
        x.number(2, 6);
        Check.dueText("any is as it was at the call", Check.showAll(x), due);
        Check.define(x, "a(");
        x.drop(0);
        x.call(0, 3);
        Check.dueText("and a refused call leaves it", Check.showAll(x), due);
        Check.define(x, "a(boolean)");
        x.call(0, 1);
        Check.dueText("until the next one", Check.showAll(x), "true");
        Check.due("fewer places", x.kind(1), NONE);
    }

    private static void asking() {
        IdlCaller x = new IdlCaller();
        Check.due("six ARGUMENTS", Check.define(x, "a(list<string?>, string, double, octet, boolean, any...)"), IdlCaller.SIGN);
        IdlCaller y = Check.with("a(list<string?>, string, double, octet, any...)");
        
        Check.tellList(y, 0, "abc", null, 5.5);
        Check.tell(y, 1, "xyz");
        y.number(2, 2.5);
        y.number(3, 7.5);
        y.simple(4, 3);
        y.simple(5, 1);
        Check.tellList(y, 6, 2.5, true, "q", UNDEFINED, null);
        y.number(7, 8.5);
        Check.due("call", y.call(0, 8), 0);
        answers(y);
        Check.due("asking changes nothing", y.place(), NONE);
        answers(y);
    }

    private static void answers(IdlCaller y) {
        int[] kinds = {6, 5, 4, 3, 2, 8, 6, 4};
        for (int k = 0; k < kinds.length; k++) {
            Check.due("kind " + k, y.kind(k), kinds[k]);
        }
        int[] wholes = {3, 3, 0, 7, 1, 0, 5, 0};
        double[] reals = {0, 0, 2.5, 0, 0, 0, 0, 8.5};
        for (int k = 0; k < wholes.length; k++) {
            Check.due("whole " + k, y.whole(k, NONE), wholes[k]);
            Check.dueReal("real " + k, y.real(k, NONE), reals[k]);
            Check.due("sign " + k, y.sign(k, NONE, 1), k == 1 ? 'y' : ' ');
        }
        int[][] items = {{5, 1, 5, NONE, NONE, NONE}, {4, 2, 5, 7, 8, NONE}};
        long[][] sizes = {{3, 0, 3, 0, 0, 0}, {0, 1, 1, 0, 0, 0}};
        for (int i = 0; i < 6; i++) {
            Check.due("item " + i, y.item(0, i), items[0][i]);
            Check.due("item " + i, y.item(6, i), items[1][i]);
            Check.due("whole of item " + i, y.whole(0, i), sizes[0][i]);
            Check.due("whole of item " + i, y.whole(6, i), sizes[1][i]);
            Check.due("sign of item " + i, y.sign(0, i, 2), i == 0 ? 'c' : i == 2 ? '5' : ' ');
            Check.dueReal("real of item " + i, y.real(6, i), i == 0 ? 2.5 : 0);
        }
        int[] far = {-1, -2, 5, 8, 100, Integer.MIN_VALUE, Integer.MAX_VALUE};
        for (int i : far) {
            for (int k : new int[] {0, 1, 2, 3, 4, 6}) {
                Check.due("item " + i + " of " + k, y.item(k, i), NONE);
            }
            if (i != NONE) {
                Check.due("whole of no item", y.whole(1, i) + y.whole(3, i) + y.whole(0, i), 0);
                Check.dueReal("real of no item", y.real(2, i) + y.real(6, i), 0);
                Check.due("sign of no item", y.sign(1, i, 0), ' ');
            }
            if (i != 5) {
                Check.due("no such character", y.sign(1, NONE, i), ' ');
                Check.due("no such character", y.sign(0, 0, i), ' ');
            }
        }
        for (int k : new int[] {-1, -2, 8, Integer.MIN_VALUE, Integer.MAX_VALUE}) {
            Check.due("kind " + k, y.kind(k), NONE);
            Check.due("item of " + k, y.item(k, 0), NONE);
            Check.due("whole of " + k, y.whole(k, NONE) + y.whole(k, 0), 0);
            Check.dueReal("real of " + k, y.real(k, NONE) + y.real(k, 0), 0);
            Check.due("sign of " + k, y.sign(k, NONE, 0), ' ');
        }
        Check.due("first character", y.sign(1, NONE, 0), 'x');
        Check.due("last character", y.sign(1, NONE, 2), 'z');
        Check.due("behind it", y.sign(1, NONE, 3), ' ');
    }
}
