/** Promises 4 and 6: what is a FORM, and where THE LINE cannot go on. */
public final class SignTest {
    public static void main(String[] args) {
        goodForms();
        badHeads();
        badArguments();
        badTypes();
        badWords();
        wordsAndBlanks();
        refusalsChangeNothing();
        Check.end("SignTest");
    }

    private static void good(String form) {
        IdlCaller x = new IdlCaller();
        Check.due("define of " + form, Check.define(x, form), 0);
        Check.due("place after " + form, x.place(), IdlCaller.NONE);
        int operation = form.trim().charAt(0) - 'a';
        for (int i = 0; i < 6; i++) {
            Check.due("FORMS of " + i + " after " + form, x.operation(i, 0), i == operation ? 1 : 0);
        }
    }

    private static void bad(String form, int place) {
        IdlCaller x = new IdlCaller();
        Check.due("define of " + form, Check.define(x, form), IdlCaller.SIGN);
        Check.due("place in " + form, x.place(), place);
        for (int i = 0; i < 6; i++) {
            Check.due("FORMS after " + form, x.operation(i, 0), 0);
        }
    }

    /** A FORM that is good as a whole, and whose every beginning ends too soon. */
    private static void endsTooSoon(String form, String... endings) {
        good(form);
        for (String start : endings) {
            bad(start, start.length());
            bad(start + "  ", start.length() + 2);
        }
    }

    private static void goodForms() {
        for (String letter : new String[] {"a", "b", "c", "d", "e", "f"}) {
            good(letter + "()");
        }
        for (String type : new String[] {"boolean", "byte", "octet", "short", "long", "double", "string", "enum(x)",
                "list<any>", "list<enum(a,b)?>"}) {
            good("a(" + type + ")");
            good("b(" + type + "?)");
            good("c(optional " + type + ")");
            good("d(" + type + "...)");
            good("e(" + type + "?...)");
        }
        for (String type : new String[] {"byte", "octet", "short", "long"}) {
            good("a([C]" + type + ")");
            good("a([E]" + type + "?)");
            good("a(list<[C]" + type + "?>...)");
            good("a(optional [E]" + type + ")");
        }
        good("a(any)");
        good("a(optional any, any...)");
        good("a(long, optional long, long...)");
        good("a(long, long, long, long, long)");
        good("a(long, long, long, optional long, long...)");
        good("a(enum(a,b,c,d,e))");
        good("a(enum(abcdefgh,z))");
        good("a(enum(long,optional,boolean,list,enum))");
    }

    private static void badHeads() {
        bad("", 0);
        bad("   ", 3);
        bad("g()", 0);
        bad("A()", 0);
        bad("  (", 2);
        bad("`()", 0);
        bad("ab()", 1);
        bad("a b()", 2);
        bad("a[]", 1);
        bad("a)", 1);
        bad("a()x", 3);
        bad("a() )", 4);
        bad("a(long) long", 8);
        bad("\ta()", 0);
        bad("a\u00a0()", 1);
        endsTooSoon("a()", "a", "a(");
    }

    private static void badArguments() {
        bad("a(,", 2);
        bad("a(long,)", 7);
        bad("a(long,,long)", 7);
        bad("a(long long)", 7);
        bad("a(long;long)", 6);
        bad("a(optional)", 10);
        bad("a(optional optional long)", 11);
        bad("a(optional [C] optional long)", 15);
        bad("a(long optional)", 7);
        bad("a(long, long, long, long, long, long)", 30);
        bad("a(long, long, long, long, long,)", 30);
        bad("a(optional long...)", 15);
        bad("a(optional long, long)", 21);
        bad("a(optional long, long )", 22);
        bad("a(optional long, long, long...)", 21);
        bad("a(optional long, long?)", 22);
        bad("a(optional long, any?)", 20);
        bad("a(optional long, long", 21);
        bad("a(optional long, long.)", 22);
        bad("a(long..)", 8);
        bad("a(long.)", 7);
        bad("a(long....)", 9);
        bad("a(long..., long)", 9);
        bad("a(long...,)", 9);
        bad("a(long... optional long)", 10);
        bad("a(...)", 2);
        bad("a(long...?)", 9);
        endsTooSoon("a(long...)", "a(long", "a(long.", "a(long..", "a(long...");
        endsTooSoon("a(optional long, long...)", "a(optional", "a(optional long", "a(optional long,",
                "a(optional long, long", "a(optional long, long.");
    }

    private static void badTypes() {
        bad("a(lon)", 2);
        bad("a(lon", 2);
        bad("a(l", 2);
        bad("a(longs)", 2);
        bad("a(Long)", 2);
        bad("a(lOng)", 2);
        bad("a(opt", 2);
        bad("a(optiona long)", 2);
        bad("a(optional lon", 11);
        bad("a(long, stri", 8);
        bad("a(list<lis", 7);
        bad("a([E]lon", 5);
        bad("a(undefined)", 2);
        bad("a(null)", 2);
        bad("a(float)", 2);
        bad("a(5)", 2);
        bad("a(any?)", 5);
        bad("a(any ?)", 6);
        bad("a(long??)", 7);
        bad("a(?long)", 2);
        bad("a([C]double)", 5);
        bad("a([E]boolean)", 5);
        bad("a([C]string)", 5);
        bad("a([E]any)", 5);
        bad("a([C]enum(a))", 5);
        bad("a([C]list<long>)", 5);
        bad("a([C][E]long)", 5);
        bad("a([C]optional long)", 5);
        bad("a([X]long)", 3);
        bad("a([c]long)", 3);
        bad("a([]long)", 3);
        bad("a([CE]long)", 4);
        bad("a([Clong)", 4);
        bad("a(C]long)", 2);
        bad("a(list)", 6);
        bad("a(list long)", 7);
        bad("a(list<>)", 7);
        bad("a(list<list<long>>)", 7);
        bad("a(list<[C]list<long>>)", 10);
        bad("a(list<optional long>)", 7);
        bad("a(list<long...>)", 11);
        bad("a(list<long)", 11);
        bad("a(list<long,long>)", 11);
        bad("a(list<any?>)", 10);
        bad("a(list<long>>)", 12);
        bad("a(list<long>??)", 13);
        endsTooSoon("a([C]long)", "a([", "a([C", "a([C]", "a([C]long");
        endsTooSoon("a(list<long?>?)", "a(list", "a(list<", "a(list<long", "a(list<long?", "a(list<long?>",
                "a(list<long?>?");
    }

    private static void badWords() {
        bad("a(enum)", 6);
        bad("a(enum())", 7);
        bad("a(enum(,a))", 7);
        bad("a(enum(a,))", 9);
        bad("a(enum(a b))", 9);
        bad("a(enum(a,b,c,d,e,f))", 16);
        bad("a(enum(a,b,c,d,e,))", 16);
        bad("a(enum(a,a))", 9);
        bad("a(enum(one,two,one))", 15);
        bad("a(enum(one,two,one", 15);
        bad("a(enum(one,two,one,,", 15);
        bad("a(enum(abcdefghi))", 7);
        bad("a(enum(abcdefghij", 7);
        bad("a(enum(abcdefgh,abcdefghh))", 16);
        bad("a(enum(aaaaaaaaaaaaaaaaaaaaaaaaaaaaaa))", 7);
        bad("a(enum(a1))", 8);
        bad("a(enum(A))", 7);
        bad("a(enum(a?))", 8);
        bad("a(enum(a)(b))", 9);
        bad("a(list<enum(x,y,x)>)", 16);
        good("a(enum(a,aa,aaa,aaaa,aaaaaaaa))");
        good("a(enum(ab,ba))");
        good("a(enum(a,b),enum(a,b))");
        endsTooSoon("a(enum(one,two))", "a(enum", "a(enum(", "a(enum(one", "a(enum(on", "a(enum(one,",
                "a(enum(one,two", "a(enum(one,two)");
    }

    private static void wordsAndBlanks() {
        good("  a  (  long  ,  optional   [ C ] byte ? , list < any > ? . . . )  ");
        good("f(enum ( a , b ) ?)");
        good("a(optional[C]long)");
        good("a(optional enum(x)?,list<long>...)");
        bad("a(optionallong)", 2);
        bad("a(optional longoptional)", 11);
        bad("a(lo ng)", 2);
        bad("a(long g)", 7);
        bad("a(enum(a, b c))", 12);
        bad("a(enum(abcde fghij))", 13);
        bad("  a ( lon", 6);
        bad("  a ( long   , l", 15);
        bad("a(long . . )", 11);
        bad("a( optional  long  ,  long  )", 28);
    }

    private static void refusalsChangeNothing() {
        IdlCaller x = Check.with("a(long)", "b(any)");
        x.number(0, 5);
        x.call(0, 1);
        Check.due("SIGN", Check.define(x, "a(long"), IdlCaller.SIGN);
        Check.due("the LINE stays", x.type(0, 0, 0, 0, 0), 6);
        Check.due("FORMS stay", x.operation(0, 0), 1);
        Check.dueText("what was converted stays", Check.showAll(x), "w5");
        Check.due("and can go on", Check.typeMore(x, ", long)"), 13);
        Check.due("define", x.define(), 1);
        Check.due("place", x.place(), IdlCaller.NONE);
    }
}
