/** What the Terms say of THE LINE: FORM, ARGUMENT, TYPE, WORD. */
final class LineSentences {
    private static final String[] WHOLE = {"byte", "octet", "short", "long"};
    private static final String[] PLAIN = {"boolean", "byte", "octet", "short", "long", "double", "string"};

    private LineSentences() {
    }

    static void tell(Sentences all) {
        String terms = "Terms";
        all.holds(terms, "THE LINE is what was typed,", LineSentences::typed);
        all.holds(terms, "at most 100 characters.", LineSentences::hundred);
        all.holds(terms, "It is a FORM (blanks (32) count for nothing", LineSentences::blanks);
        all.holds(terms, "but between words):", LineSentences::blanksBetweenWords);
        all.holds(terms, "a letter a .. f, the OPERATION,", LineSentences::letter);
        all.holds(terms, "(, no ARGUMENTS or up to five", LineSentences::upToFive);
        all.holds(terms, "with , between, ).", LineSentences::commas);
        all.holds(terms, "ARGUMENT: perhaps optional, a TYPE, perhaps ...", LineSentences::argument);
        all.holds(terms, "(VARIADIC; not behind optional,", LineSentences::variadicBehindOptional);
        all.holds(terms, "and the last one;", LineSentences::variadicLast);
        all.holds(terms, "behind an optional one all are optional, or VARIADIC: SIGN where ... does not come).",
                LineSentences::behindOptional);
        all.holds(terms, "TYPE: perhaps [C] or [E]", LineSentences::brackets);
        all.holds(terms, "(before byte, octet, short, long only);", LineSentences::bracketsBefore);
        all.holds(terms, "boolean, byte, octet, short, long, double, string, any,", LineSentences::names);
        all.holds(terms, "enum ( one to five WORDS with , between ),", LineSentences::enums);
        all.holds(terms, "list < a TYPE that is no list >;", LineSentences::lists);
        all.holds(terms, "then perhaps ? (not behind any): NULLABLE.", LineSentences::nullable);
        all.holds(terms, "A WORD is one to eight letters a .. z;", LineSentences::word);
        all.holds(terms, "all WORDS of an enum are different (SIGN at the first letter of one that is not).",
                LineSentences::different);
        all.holds(terms, "All these words are letters a .. z that stand together (C and E are signs);",
                LineSentences::together);
        all.holds(terms, "optional and the names of TYPES stand alone", LineSentences::alone);
        all.holds(terms, "(they may be WORDS).", LineSentences::mayBeWords);
    }

    private static void typed() {
        IdlCaller x = new IdlCaller();
        Check.due("first", x.type('a' << 8, '(', 0, 0, 0), 2);
        Check.due("second", x.type(0, 0, 0x6c006f00, 0, 'n'), 5);
        Check.due("third", x.type('g' << 24, 0, 0, 0, 0), 6);
        Check.due("is not yet a FORM", x.define(), IdlCaller.SIGN);
        Check.due("fourth", x.type(0, 0, 0, ')' << 16, 0), 7);
        Check.due("is a FORM", x.define(), 0);
        x.number(0, 300);
        Check.due("call", x.call(0, 1), 0);
        Check.due("its TYPE is long", x.whole(0, IdlCaller.NONE), 300);
        // All in one, twenty characters.
        IdlCaller one = new IdlCaller();
        Check.due("type", one.type(0x62287374, 0x72696e67, 0x2c6f6374, 0x65742c61, 0x6e793f3f), 20);
        Check.due("define", one.define(), IdlCaller.SIGN);
        Check.due("b(string,octet,any has no ?", one.place(), 18);
    }

    private static void hundred() {
        for (int blanks : new int[] {92, 93}) {
            Expect.good("a(long" + " ".repeat(blanks) + ")");
            Expect.stops("a(long" + " ".repeat(blanks) + "^(");
            Expect.stops("a(long" + " ".repeat(blanks + 1) + "^");
        }
        IdlCaller x = new IdlCaller();
        Check.due("99", Check.typeMore(x, "a(long" + " ".repeat(93)), 99);
        Check.refusesState("101", () -> x.type(' ', ')', 0, 0, 0));
        Check.due("100", x.type(0, 0, ')', 0, 0), 100);
        Check.refusesState("101", () -> x.type(0, 0, 0, 0, ' '));
        Check.due("define", x.define(), 0);
    }

    private static void blanks() {
        String[] signs = {"a", "(", "optional", "[", "C", "]", "byte", "?", ",", "list", "<", "enum", "(", "x", ",",
            "y", ")", "?", ">", "?", ".", ".", ".", ")"};
        for (String between : new String[] {"", " ", "  "}) {
            // Only behind optional it is a matter of [ that no blank is needed.
            Expect.good(String.join(between, signs));
            Expect.good(between + String.join(between, signs) + between);
        }
        for (char other : new char[] {1, 9, 10, 13, 31, 33, 160, 255}) {
            Expect.stops("^" + other + "a()");
            Expect.stops("a^" + other + "()");
            Expect.stops("a(^" + other + ")");
            Expect.stops("a()^" + other);
            Expect.stops("a(long^" + other + ")");
            Expect.stops("a(^" + other + "long)");
            Expect.stops("a(optional^" + other + "long)");
            Expect.stops("a(enum(x^" + other + "))");
        }
        Expect.stops("^");
        Expect.stops(" ^");
        Expect.stops("  a (  long   ^long )");
        Expect.stops("a( ) ^)  ");
    }

    private static void blanksBetweenWords() {
        Expect.good("a(optional long)");
        Expect.good("a(optional  long)");
        Expect.stops("a(^optionallong)");
        Expect.stops("a(^opt ional long)");
        Expect.stops("a(^lo ng)");
        Expect.stops("a(long ^g)");
        Expect.stops("a(enum(ab ^c))");
        // Without the blank it would be a WORD of nine letters, with it there are two.
        Expect.stops("a(enum(abcd ^efghi))");
        Expect.stops("a(enum(^abcdefghi))");
    }

    private static void letter() {
        for (char letter = 'a'; letter <= 'f'; letter++) {
            Expect.good(letter + "()");
            Expect.good(letter + "(long)");
        }
        for (char other : new char[] {'`', 'g', 'z', 'A', 'F', '0', '(', ')'}) {
            Expect.stops("^" + other + "()");
            Expect.stops("  ^" + other + "(long)");
        }
    }

    private static void upToFive() {
        String form = "f(";
        for (int count = 0; count <= 5; count++) {
            String some = form + "long,".repeat(count);
            String whole = (count == 0 ? some : some.substring(0, some.length() - 1)) + ")";
            Expect.good(whole);
            IdlCaller x = Check.with(whole);
            Check.due("most of " + whole, x.operation(5, 1), count);
            Check.due("least of " + whole, x.operation(5, 2), count);
        }
        Expect.stops("f(long,long,long,long,long^,long)");
        Expect.stops("f(long,long,long,long,long ^,");
        Expect.stops("f(optional any,optional any,optional any,optional any,optional any^,any...)");
    }

    private static void commas() {
        Expect.good("a(long,any)");
        Expect.stops("a(long ^any)");
        Expect.stops("a(long^;any)");
        Expect.stops("a(^,long)");
        Expect.stops("a(^,)");
        Expect.stops("a(long,^)");
        Expect.stops("a(long,^,long)");
        Expect.stops("a(long,any,long,any^;long)");
        Expect.stops("a^)");
        Expect.stops("a^[]");
        Expect.stops("a(^]");
        Expect.stops("a(long^]");
        Expect.stops("a()^)");
        Expect.stops("a(long)^,");
        Expect.stops("a()^b()");
    }

    private static void argument() {
        Expect.good("a(optional long)");
        Expect.good("a(long)");
        Expect.good("a(long...)");
        Expect.stops("a(optional ^optional long)");
        Expect.stops("a(optional^)");
        Expect.stops("a(optional^,long)");
        Expect.stops("a(long ^optional)");
        Expect.stops("a(^...)");
        Expect.stops("a(^...long)");
        Expect.stops("a(long.^)");
        Expect.stops("a(long..^)");
        Expect.stops("a(long...^.)");
        Expect.stops("a(long...^...)");
        IdlCaller x = Check.with("a(optional long)", "b(long)", "c(long...)");
        for (int operation = 0; operation < 3; operation++) {
            Check.due("least", x.operation(operation, 2), operation == 1 ? 1 : 0);
            Check.due("most", x.operation(operation, 1), operation == 2 ? 8 : 1);
        }
    }

    private static void variadicBehindOptional() {
        Expect.stops("a(optional long^...)");
        Expect.stops("a(optional long?^...)");
        Expect.stops("a(long,optional list<any>^...)");
        Expect.stops("a(optional long,optional any^...)");
    }

    private static void variadicLast() {
        Expect.good("a(long...)");
        Expect.good("a(any,long...)");
        Expect.good("a(any,any,any,any,long...)");
        Expect.stops("a(long...^,long)");
        Expect.stops("a(long...^,long...)");
        Expect.stops("a(any,long...^,optional long)");
        Expect.stops("a(any,any,any,long...^,any)");
    }

    private static void behindOptional() {
        Expect.good("a(long,optional long)");
        Expect.good("a(optional long,optional long)");
        Expect.good("a(optional long,long...)");
        Expect.good("a(long,optional long,optional long,optional long,long...)");
        Expect.stops("a(optional long,long^)");
        Expect.stops("a(optional long,long ^)");
        Expect.stops("a(optional long,long^,optional long)");
        Expect.stops("a(optional long,optional long,long^)");
        Expect.stops("a(long,optional long,long?^)");
        Expect.stops("a(optional long,enum(x,y)^)");
        Expect.stops("a(optional long,list<long>?^,long...)");
        Expect.stops("a(optional long,any^?)");
        Expect.stops("a(optional long,long^");
        Expect.stops("a(optional long,long ^long)");
    }

    private static void brackets() {
        for (String type : WHOLE) {
            Expect.good("a([C]" + type + ")");
            Expect.good("a([E]" + type + ")");
            Expect.good("a(optional [C]" + type + "?)");
            Expect.good("a(list<[E]" + type + ">)");
        }
        Expect.stops("a([C]^[C]long)");
        Expect.stops("a([C]^[E]long)");
        Expect.stops("a([^]long)");
        Expect.stops("a([^D]long)");
        Expect.stops("a([^B]long)");
        Expect.stops("a([^F]long)");
        Expect.stops("a([C^long)");
        Expect.stops("a([C^)");
        Expect.stops("a([^");
        Expect.stops("a([E^");
        Expect.stops("a([E]^");
        Expect.stops("a(^C]long)");
        Expect.stops("a(^]long)");
        Expect.stops("a([E]^)");
        Expect.stops("a(long^[C])");
    }

    private static void bracketsBefore() {
        for (String mode : new String[] {"[C]", "[E]"}) {
            for (String other : new String[] {"boolean", "double", "string", "any", "enum(x)", "list<long>",
                    "optional long"}) {
                Expect.stops("a(" + mode + "^" + other + ")");
                Expect.stops("a(any," + mode + "^" + other + "...)");
            }
            for (String other : new String[] {"boolean", "double", "string", "any", "enum(x)"}) {
                Expect.stops("a(list<" + mode + "^" + other + ">)");
            }
        }
    }

    private static void names() {
        for (String name : new String[] {"boolean", "byte", "octet", "short", "long", "double", "string", "any"}) {
            Expect.good("a(" + name + ")");
            Expect.good("a(optional " + name + ")");
            Expect.good("a(" + name + "," + name + ")");
            Expect.stops("a(^" + name.substring(0, name.length() - 1) + ")");
            Expect.stops("a(^" + name.substring(1) + ")");
            Expect.stops("a(^" + name + "s)");
            Expect.stops("a(^x" + name + ")");
            Expect.stops("a(^" + name.toUpperCase() + ")");
            Expect.stops("a(long," + "^" + name + name + ")");
        }
        for (String other : new String[] {"float", "int", "char", "void", "undefined", "null", "number", "text",
                "enums(x)", "enu(x)", "lists<long>", "lis<long>", "8", "?", "<long>", "(x)"}) {
            Expect.stops("a(^" + other + ")");
        }
    }

    private static void enums() {
        String[] words = {"aa", "bb", "cc", "dd", "ee"};
        for (int count = 1; count <= 5; count++) {
            String type = "enum(" + String.join(",", java.util.Arrays.copyOf(words, count)) + ")";
            Expect.good("a(" + type + ")");
            for (int i = 0; i < 5; i++) {
                Expect.becomes(type, words[i], i < count ? "'" + words[i] + "'" : Expect.REFUSED);
            }
        }
        Expect.stops("a(enum(^))");
        Expect.stops("a(enum(aa,bb,cc,dd,ee^,ff))");
        Expect.stops("a(enum(aa,bb,cc,dd,ee ^,");
        Expect.stops("a(enum(aa ^bb))");
        Expect.stops("a(enum(aa,^))");
        Expect.stops("a(enum(aa,^,bb))");
        Expect.stops("a(enum(^,aa))");
        Expect.stops("a(enum(aa^;bb))");
        Expect.stops("a(enum^)");
        Expect.stops("a(enum^<aa>)");
        Expect.stops("a(enum(aa^>)");
        Expect.stops("a(enum(aa)^(bb))");
        Expect.stops("a(enum ^aa)");
    }

    private static void lists() {
        for (String type : PLAIN) {
            Expect.good("a(list<" + type + ">)");
            Expect.good("a(list<" + type + "?>...)");
        }
        Expect.good("a(list<any>)");
        Expect.good("a(list<enum(x,y)?>)");
        Expect.stops("a(list<^list<long>>)");
        Expect.stops("a(list<^list>)");
        Expect.stops("a(list<[C]^list<long>>)");
        Expect.stops("a(list<^>)");
        Expect.stops("a(list^)");
        Expect.stops("a(list ^long)");
        Expect.stops("a(list^(long))");
        Expect.stops("a(list<long^))");
        Expect.stops("a(list<long^,long>)");
        Expect.stops("a(list<long ^long>)");
        Expect.stops("a(list<^optional long>)");
        Expect.stops("a(list<long^...>)");
        Expect.stops("a(list<long>^>)");
        Expect.stops("a(list<^");
        Expect.stops("a(list<long^");
    }

    private static void nullable() {
        String[] types = {"boolean", "byte", "[C]octet", "[E]short", "long", "double", "string", "enum(x)",
            "list<long>", "list<any>"};
        for (String type : types) {
            Expect.good("a(" + type + "?)");
            Expect.good("a(" + type + "?...)");
            Expect.stops("a(" + type + "?^?)");
            Expect.stops("a(^?" + type + ")");
            Expect.stops("a(" + type + "...^?)");
            Expect.becomes(type + "?", null, "NULL");
        }
        Expect.stops("a(any^?)");
        Expect.stops("a(optional any^?)");
        Expect.stops("a(any ^?...)");
        Expect.stops("a(list<any^?>)");
        Expect.stops("a(list<long?^?>)");
        Expect.good("a(list<long?>?)");
        Expect.stops("a(optional^? long)");
    }

    private static void word() {
        for (String good : new String[] {"a", "z", "az", "zzzzzzz", "aaaaaaaa", "zzzzzzzz", "abcdefgh"}) {
            Expect.good("a(enum(" + good + "))");
            Expect.becomes("enum(" + good + ")", good, "'" + good + "'");
            Expect.becomes("enum(" + good + ")", good + "a", Expect.REFUSED);
        }
        for (String bad : new String[] {"", "abcdefghi", "aaaaaaaaa", "zzzzzzzzzzzz",
                "zzzzzzzzzzzzzzzzzzzzzzzzzzzzzz"}) {
            Expect.stops("a(enum(^" + bad + "))");
            Expect.stops("a(enum(x,^" + bad + ",y))");
        }
        for (char other : new char[] {'`', '{', 'A', 'Z', '0', '9', '_', '-', '[', 255}) {
            Expect.stops("a(enum(^" + other + "))");
            Expect.stops("a(enum(x,^" + other + "z))");
            Expect.stops("a(enum(z^" + other + "))");
        }
    }

    private static void different() {
        Expect.stops("a(enum(x,^x))");
        Expect.stops("a(enum(x,y,^x))");
        Expect.stops("a(enum(v,w,x,y,^v))");
        Expect.stops("a(enum(v,w,x,y,^y))");
        Expect.stops("a(enum(v,w,x,^w,v))");
        Expect.stops("a(enum(abcdefgh , ^abcdefgh , x))");
        Expect.stops("a(list<enum(x,^x)>)");
        Expect.stops("a(enum(x,y),enum(x,^x))");
        Expect.good("a(enum(x,xx,xxx,xxxx,xxxxxxxx))");
        Expect.good("a(enum(xy,yx))");
        Expect.good("a(enum(abcdefgh,abcdefgi,bbcdefgh,abcdefg))");
        Expect.good("a(enum(v,w,x,y,z),enum(v,w,x,y,z))");
    }

    private static void together() {
        Expect.stops("a(^l ong)");
        Expect.stops("a(^lon g)");
        Expect.stops("a(^o ptional long)");
        Expect.stops("a(^Long)");
        Expect.stops("a(^lonG)");
        Expect.stops("a(^l0ng)");
        Expect.stops("a([^c]long)");
        Expect.stops("a([^e]long)");
        Expect.stops("a([C^C]long)");
        Expect.stops("a([C^E]long)");
        Expect.stops("a([C^c]long)");
        Expect.stops("a(enum(^C))");
        Expect.stops("a(enum(x^E))");
        Expect.good("a([ C ]long)");
        Expect.good("a([E ] long)");
    }

    private static void alone() {
        Expect.stops("a(^optionalany)");
        Expect.stops("a(^longlong)");
        Expect.stops("a(optional ^longoptional)");
        Expect.stops("a(optional ^longs)");
        Expect.stops("a(^soptional long)");
        Expect.stops("a(^enumenum(x))");
        Expect.stops("a(^listlist<long>)");
        Expect.stops("a(list<^longs>)");
        Expect.stops("a([C]^longs)");
        Expect.good("a(optional[C]long)");
    }

    private static void mayBeWords() {
        String[] names = {"optional", "boolean", "byte", "octet", "short", "long", "double", "string", "any", "enum",
            "list"};
        for (String name : names) {
            Expect.good("a(enum(" + name + "))");
            Expect.good("a(optional enum(x," + name + "),enum(" + name + ",y)...)");
            Expect.becomes("enum(x," + name + ")", name, "'" + name + "'");
        }
        Expect.stops("a(enum(optional ^long))");
        Expect.stops("a(enum(any^?))");
        Expect.stops("a(enum(list^<long>))");
    }
}
