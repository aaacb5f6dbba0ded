/** Promises 4 and 6: what is a FORM, and where THE LINE cannot go on. */
public final class SignTest {
    public static void main(String[] args) {
        goodForms();
        badHeads();
        badArguments();
        badTypes();
        badWords();
        wordsAndBlanks();
        refusalsChangeNothing();
        Check.end("SignTest");
    }

    /** A FORM that is good as a whole, and whose every beginning ends too soon. */
    private static void endsTooSoon(String form, String... endings) {
        Expect.good(form);
        for (String start : endings) {
            Expect.bad(start, start.length());
            Expect.bad(start + "  ", start.length() + 2);
        }
    }

    private static void goodForms() {
        for (String letter : new String[] {"a", "b", "c", "d", "e", "f"}) {
            Expect.good(letter + "()");
        }
        for (String type : new String[] {"boolean", "byte", "octet", "short", "long", "double", "string", "enum(x)",
                "list<any>", "list<enum(a,b)?>"}) {
            Expect.good("a(" + type + ")");
            Expect.good("b(" + type + "?)");
            Expect.good("c(optional " + type + ")");
            Expect.good("d(" + type + "...)");
            Expect.good("e(" + type + "?...)");
        }
        for (String type : new String[] {"byte", "octet", "short", "long"}) {
            Expect.good("a([C]" + type + ")");
            Expect.good("a([E]" + type + "?)");
            Expect.good("a(list<[C]" + type + "?>...)");
            Expect.good("a(optional [E]" + type + ")");
        }
        Expect.good("a(any)");
        Expect.good("a(optional any, any...)");
        Expect.good("a(long, optional long, long...)");
        Expect.good("a(long, long, long, long, long)");
        Expect.good("a(long, long, long, optional long, long...)");
        Expect.good("a(enum(a,b,c,d,e))");
        Expect.good("a(enum(abcdefgh,z))");
        Expect.good("a(enum(long,optional,boolean,list,enum))");
    }

    private static void badHeads() {
        Expect.bad("", 0);
        Expect.bad("   ", 3);
        Expect.bad("g()", 0);
        Expect.bad("A()", 0);
        Expect.bad("  (", 2);
        Expect.bad("`()", 0);
        Expect.bad("ab()", 1);
        Expect.bad("a b()", 2);
        Expect.bad("a[]", 1);
        Expect.bad("a)", 1);
        Expect.bad("a()x", 3);
        Expect.bad("a() )", 4);
        Expect.bad("a(long) long", 8);
        Expect.bad("\ta()", 0);
        Expect.bad("a\u00a0()", 1);
        endsTooSoon("a()", "a", "a(");
    }

    private static void badArguments() {
        Expect.bad("a(,", 2);
        Expect.bad("a(long,)", 7);
        Expect.bad("a(long,,long)", 7);
        Expect.bad("a(long long)", 7);
        Expect.bad("a(long;long)", 6);
        Expect.bad("a(optional)", 10);
        Expect.bad("a(optional optional long)", 11);
        Expect.bad("a(optional [C] optional long)", 15);
        Expect.bad("a(long optional)", 7);
        Expect.bad("a(long, long, long, long, long, long)", 30);
        Expect.bad("a(long, long, long, long, long,)", 30);
        Expect.bad("a(optional long...)", 15);
        Expect.bad("a(optional long, long)", 21);
        Expect.bad("a(optional long, long )", 22);
        Expect.bad("a(optional long, long, long...)", 21);
        Expect.bad("a(optional long, long?)", 22);
        Expect.bad("a(optional long, any?)", 20);
        Expect.bad("a(optional long, long", 21);
        Expect.bad("a(optional long, long.)", 22);
        Expect.bad("a(long..)", 8);
        Expect.bad("a(long.)", 7);
        Expect.bad("a(long....)", 9);
        Expect.bad("a(long..., long)", 9);
        Expect.bad("a(long...,)", 9);
        Expect.bad("a(long... optional long)", 10);
        Expect.bad("a(...)", 2);
        Expect.bad("a(long...?)", 9);
        endsTooSoon("a(long...)", "a(long", "a(long.", "a(long..", "a(long...");
        endsTooSoon("a(optional long, long...)", "a(optional", "a(optional long", "a(optional long,",
                "a(optional long, long", "a(optional long, long.");
    }

    private static void badTypes() {
        Expect.bad("a(lon)", 2);
        Expect.bad("a(lon", 2);
        Expect.bad("a(l", 2);
        Expect.bad("a(longs)", 2);
        Expect.bad("a(Long)", 2);
        Expect.bad("a(lOng)", 2);
        Expect.bad("a(opt", 2);
        Expect.bad("a(optiona long)", 2);
        Expect.bad("a(optional lon", 11);
        Expect.bad("a(long, stri", 8);
        Expect.bad("a(list<lis", 7);
        Expect.bad("a([E]lon", 5);
        Expect.bad("a(undefined)", 2);
        Expect.bad("a(null)", 2);
        Expect.bad("a(float)", 2);
        Expect.bad("a(5)", 2);
        Expect.bad("a(any?)", 5);
        Expect.bad("a(any ?)", 6);
        Expect.bad("a(long??)", 7);
        Expect.bad("a(?long)", 2);
        Expect.bad("a([C]double)", 5);
        Expect.bad("a([E]boolean)", 5);
        Expect.bad("a([C]string)", 5);
        Expect.bad("a([E]any)", 5);
        Expect.bad("a([C]enum(a))", 5);
        Expect.bad("a([C]list<long>)", 5);
        Expect.bad("a([C][E]long)", 5);
        Expect.bad("a([C]optional long)", 5);
        Expect.bad("a([X]long)", 3);
        Expect.bad("a([c]long)", 3);
        Expect.bad("a([]long)", 3);
        Expect.bad("a([CE]long)", 4);
        Expect.bad("a([Clong)", 4);
        Expect.bad("a(C]long)", 2);
        Expect.bad("a(list)", 6);
        Expect.bad("a(list long)", 7);
        Expect.bad("a(list<>)", 7);
        Expect.bad("a(list<list<long>>)", 7);
        Expect.bad("a(list<[C]list<long>>)", 10);
        Expect.bad("a(list<optional long>)", 7);
        Expect.bad("a(list<long...>)", 11);
        Expect.bad("a(list<long)", 11);
        Expect.bad("a(list<long,long>)", 11);
        Expect.bad("a(list<any?>)", 10);
        Expect.bad("a(list<long>>)", 12);
        Expect.bad("a(list<long>??)", 13);
        endsTooSoon("a([C]long)", "a([", "a([C", "a([C]", "a([C]long");
        endsTooSoon("a(list<long?>?)", "a(list", "a(list<", "a(list<long", "a(list<long?", "a(list<long?>",
                "a(list<long?>?");
    }

    private static void badWords() {
        Expect.bad("a(enum)", 6);
        Expect.bad("a(enum())", 7);
        Expect.bad("a(enum(,a))", 7);
        Expect.bad("a(enum(a,))", 9);
        Expect.bad("a(enum(a b))", 9);
        Expect.bad("a(enum(a,b,c,d,e,f))", 16);
        Expect.bad("a(enum(a,b,c,d,e,))", 16);
        Expect.bad("a(enum(a,a))", 9);
        Expect.bad("a(enum(one,two,one))", 15);
        Expect.bad("a(enum(one,two,one", 15);
        Expect.bad("a(enum(one,two,one,,", 15);
        Expect.bad("a(enum(abcdefghi))", 7);
        Expect.bad("a(enum(abcdefghij", 7);
        Expect.bad("a(enum(abcdefgh,abcdefghh))", 16);
        Expect.bad("a(enum(aaaaaaaaaaaaaaaaaaaaaaaaaaaaaa))", 7);
        Expect.bad("a(enum(a1))", 8);
        Expect.bad("a(enum(A))", 7);
        Expect.bad("a(enum(a?))", 8);
        Expect.bad("a(enum(a)(b))", 9);
        Expect.bad("a(list<enum(x,y,x)>)", 16);
        Expect.good("a(enum(a,aa,aaa,aaaa,aaaaaaaa))");
        Expect.good("a(enum(ab,ba))");
        Expect.good("a(enum(a,b),enum(a,b))");
        endsTooSoon("a(enum(one,two))", "a(enum", "a(enum(", "a(enum(one", "a(enum(on", "a(enum(one,",
                "a(enum(one,two", "a(enum(one,two)");
    }

    private static void wordsAndBlanks() {
        Expect.good("  a  (  long  ,  optional   [ C ] byte ? , list < any > ? . . . )  ");
        Expect.good("f(enum ( a , b ) ?)");
        Expect.good("a(optional[C]long)");
        Expect.good("a(optional enum(x)?,list<long>...)");
        Expect.bad("a(optionallong)", 2);
        Expect.bad("a(optional longoptional)", 11);
        Expect.bad("a(lo ng)", 2);
        Expect.bad("a(long g)", 7);
        Expect.bad("a(enum(a, b c))", 12);
        Expect.bad("a(enum(abcde fghij))", 13);
        Expect.bad("  a ( lon", 6);
        Expect.bad("  a ( long   , l", 15);
        Expect.bad("a(long . . )", 11);
        Expect.bad("a( optional  long  ,  long  )", 28);
    }

    private static void refusalsChangeNothing() {
        IdlCaller x = Check.with("a(long)", "b(any)");
        x.number(0, 5);
        x.call(0, 1);
        Check.due("SIGN", Check.define(x, "a(long"), IdlCaller.SIGN);
        Check.due("the LINE stays", x.type(0, 0, 0, 0, 0), 6);
        Check.due("FORMS stay", x.operation(0, 0), 1);
        Check.dueText("what was converted stays", Check.showAll(x), "w5");
        Check.due("and can go on", Check.typeMore(x, ", long)"), 13);
        Check.due("define", x.define(), 1);
        Check.due("place", x.place(), IdlCaller.NONE);
    }
}
