/** What the promises 11 to 17 say: call, operation and the questions about what was converted. */
final class AnswerSentences {
    private static final int NONE = IdlCaller.NONE;
    private static final int KIND = IdlCaller.KIND;
    private static final Object UNDEFINED = Expect.UNDEFINED;

    private AnswerSentences() {
    }

    static void tell(Sentences all) {
        tellOfCalls(all);
        tellOfQuestions(all);
    }

    private static void tellOfCalls(Sentences all) {
        all.holds("Promise 11", "An OPERATION is called with the first n SLOTS:", AnswerSentences::call);
        all.holds("Promise 11", "the number of its FORM, whose VALUES are converted then;",
                AnswerSentences::numberOfForm);
        all.holds("Promise 11", "or KIND.", AnswerSentences::kindOfCall);
        all.holds("Promise 11", "IllegalArgument: not 0 .. 5,", AnswerSentences::callThrows);
        all.holds("Promise 11", "n not 0 .. 8.", AnswerSentences::callWithThrows);
        all.holds("Promise 12", "Of an OPERATION: what = 0 how many FORMS,", AnswerSentences::howManyForms);
        all.holds("Promise 12", "1 the most,", AnswerSentences::most);
        all.holds("Promise 12", "2 the least ARGUMENTS that some can be called with", AnswerSentences::least);
        all.holds("Promise 12", "(NONE without FORMS),", AnswerSentences::noneWithoutForms);
        all.holds("Promise 12", "3 + n the DECIDING one for n, 0 .. 8", AnswerSentences::deciding);
        all.holds("Promise 12", "(NONE without one,", AnswerSentences::noDeciding);
        all.holds("Promise 12", "or if n is more than some can be called with).",
                AnswerSentences::decidingAboveTheMost);
        all.holds("Promise 12", "IllegalArgument: not 0 .. 5,", AnswerSentences::operationThrows);
        all.holds("Promise 12", "or not 0 .. 11.", AnswerSentences::whatThrows);
    }

    private static void tellOfQuestions(Sentences all) {
        all.holds("Promise 13", "Of place k of what was converted last: what it is:", AnswerSentences::kindOfLast);
        all.holds("Promise 13",
                "0 MISSING, 1 NULL, 2 a boolean, 3 a whole number, 4 a double, 5 a text, 6 a list; 7 undefined,"
                + " 8 null (of any);", AnswerSentences::kinds);
        all.holds("Promise 13", "NONE if there is none such.", AnswerSentences::noSuchPlace);
        all.holds("Promise 14", "The same of item i of a list there.", AnswerSentences::item);
        all.holds("Promise 15", "A whole number there, a boolean as 1 or 0,", AnswerSentences::wholeNumbers);
        all.holds("Promise 15", "a text's or list's size;", AnswerSentences::sizes);
        all.holds("Promise 15", "i = NONE for the place itself, else of item i;", AnswerSentences::wholeOfItem);
        all.holds("Promise 15", "0 if it is another thing.", AnswerSentences::wholeOfAnother);
        all.holds("Promise 16", "A double there, likewise;", AnswerSentences::real);
        all.holds("Promise 16", "0 if it is another thing.", AnswerSentences::realOfAnother);
        all.holds("Promise 17", "Character c of a text there, likewise;", AnswerSentences::sign);
        all.holds("Promise 17", "a space if there is none.", AnswerSentences::noSign);
    }

    // 11 and 12: call and operation.

    private static void call() {
        IdlCaller x = Check.with("a(any...)", "b(long)", "c(string...)", "d(any...)", "e(boolean...)",
                "f([E]octet...)");
        for (int slot = 0; slot < 8; slot++) {
            x.number(slot, slot + 1);
        }
        String[] due = {"d1.0; d2.0; d3.0", "w1", "'1'; '2'; '3'", "d1.0; d2.0; d3.0", "true; true; true",
            "w1; w2; w3"};
        for (int operation = 0; operation < 6; operation++) {
            Check.due("call of " + operation, x.call(operation, 3), 0);
            Check.dueText("converted by " + operation, Check.showAll(x), due[operation]);
        }
        x.number(3, 256);
        Check.due("the fourth is not called with", x.call(5, 3), 0);
        Check.due("the fourth is", x.call(5, 4), KIND);
        Check.due("its place", x.place(), 3);
        Check.due("with none", x.call(5, 0), 0);
        Check.due("b with none", x.call(1, 0), KIND);
        Check.due("with all", x.call(0, 8), 0);
        Check.dueText("the last one", Check.show(x, 7), "d8.0");
    }

    private static void numberOfForm() {
        IdlCaller x = Check.with("a()", "a(long)", "a(string)", "a(boolean)", "a(list<any>)", "a(any,any)");
        Object[] values = {1.5, "x", true, Expect.list()};
        String[] due = {"w1", "'x'", "true", "[]"};
        for (int i = 0; i < values.length; i++) {
            Expect.takes(x, i + 1, due[i], new Object[] {values[i]});
        }
        Expect.takes(x, 0, "");
        Expect.takes(x, 5, "d1.5; 'x'", 1.5, "x");
        Check.due("dropped", x.drop(0), 6);
        Check.define(x, "a(any,any)");
        Expect.takes(x, 0, "d1.5; 'x'", 1.5, "x");
    }

    private static void kindOfCall() {
        IdlCaller x = Check.with("a([E]octet,list<any>)");
        Expect.refuses(x, 0);
        Expect.refuses(x, 1, 1.0);
        Expect.refuses(x, 0, 256.0, Expect.list());
        Expect.refuses(x, 1, 255.0, "x");
        Expect.takes(x, 0, "w255; []", 255.0, Expect.list());
        Expect.refuses(x, 1, 255.0, 1.0);
        Check.due("KIND is none of the numbers", KIND, -5);
    }

    private static void callThrows() {
        for (int i = -20; i <= 20; i++) {
            Expect.argument(i >= 0 && i <= 5, i, "call of", x -> { }, (x, operation) -> x.call(operation, 0));
            Expect.argument(i >= 0 && i <= 5, i, "call of", x -> { }, (x, operation) -> x.call(operation, 8));
        }
    }

    private static void callWithThrows() {
        for (int i = -20; i <= 20; i++) {
            Expect.argument(i >= 0 && i <= 8, i, "call with", x -> { }, (x, n) -> x.call(5, n));
            Expect.argument(i >= 0 && i <= 8, i, "call with", x -> Check.define(x, "f(any...)"), (x, n) -> x.call(5,
                    n));
            Expect.argument(i >= 0 && i <= 8, i, "call with", x -> Check.define(x, "f()"), (x, n) -> x.call(5, n));
        }
    }

    private static void howManyForms() {
        String[] forms = {"()", "(long)", "(string)", "(boolean)", "(list<any>)", "(any,any)"};
        for (int operation = 0; operation < 6; operation++) {
            IdlCaller x = new IdlCaller();
            for (int count = 0; count < 6; count++) {
                Check.due("how many", x.operation(operation, 0), count);
                Check.define(x, (char) ('a' + operation) + forms[count]);
            }
            Check.due("how many", x.operation(operation, 0), 6);
            Check.define(x, (char) ('a' + operation) + "(any,any,any)");
            Check.due("how many after FULL", x.operation(operation, 0), 6);
            x.drop(operation);
            Check.due("how many after drop", x.operation(operation, 0), 0);
        }
    }

    /** The answers of what = 1 and 2 for these FORMS, each defined behind the others. */
    private static void mostAndLeast(int what, String[] forms, int[] due) {
        IdlCaller x = new IdlCaller();
        for (int i = 0; i < forms.length; i++) {
            Check.due("define of " + forms[i], Check.define(x, forms[i]) >= 0 ? 1 : 0, 1);
            Check.due("after " + forms[i], x.operation(0, what), due[i]);
        }
    }

    private static void most() {
        mostAndLeast(1, new String[] {"a()", "a(any,any)", "a(any)", "a(any,any,any,optional any)",
                "a(any,any,any,any,any)"}, new int[] {0, 2, 2, 4, 5});
        mostAndLeast(1, new String[] {"a(any)", "a(any,any,any...)", "a()"}, new int[] {1, 8, 8});
        mostAndLeast(1, new String[] {"a(optional any)"}, new int[] {1});
        mostAndLeast(1, new String[] {"a(any...)"}, new int[] {8});
        mostAndLeast(1, new String[] {"a(any,any,any,any,any...)"}, new int[] {8});
    }

    private static void least() {
        mostAndLeast(2, new String[] {"a(any,any,any)", "a(any,any)", "a(any,any,any,any)", "a(any)", "a()"},
                new int[] {3, 2, 2, 1, 0});
        mostAndLeast(2, new String[] {"a(any,any,any,any,any)", "a(any,any,optional any,optional any)"}, new int[] {5,
                2});
        mostAndLeast(2, new String[] {"a(any,any...)", "a()"}, new int[] {1, 0});
        mostAndLeast(2, new String[] {"a(optional any,optional any,any...)"}, new int[] {0});
        mostAndLeast(2, new String[] {"a(any,any,any,any,any...)"}, new int[] {4});
    }

    private static void noneWithoutForms() {
        IdlCaller x = Check.with("b()");
        for (int operation : new int[] {0, 2, 3, 4, 5}) {
            Check.due("how many", x.operation(operation, 0), 0);
            for (int what = 1; what < 12; what++) {
                Check.due("what = " + what, x.operation(operation, what), NONE);
            }
        }
        Check.due("with a FORM without ARGUMENTS the most", x.operation(1, 1), 0);
        Check.due("with a FORM without ARGUMENTS the least", x.operation(1, 2), 0);
        x.drop(1);
        Check.due("the most after drop", x.operation(1, 1), NONE);
        Check.due("the least after drop", x.operation(1, 2), NONE);
    }

    /** The DECIDING ones for n = 0 .. 8. */
    private static void decidingAre(int[] due, String... forms) {
        IdlCaller x = Check.with(forms);
        for (int n = 0; n <= 8; n++) {
            Check.due("for " + n, x.operation(0, 3 + n), due[n]);
        }
    }

    private static void deciding() {
        decidingAre(new int[] {NONE, 0, NONE, NONE, NONE, NONE, NONE, NONE, NONE}, "a(long)", "a(string)");
        decidingAre(new int[] {NONE, NONE, NONE, NONE, NONE, 4, NONE, NONE, NONE}, "a(any,any,any,any,long)",
                "a(any,any,any,any,string)");
        decidingAre(new int[] {NONE, 0, 0, 0, 0, 0, 0, 0, 0}, "a(long,any...)", "a(string,any...)");
        decidingAre(new int[] {NONE, NONE, 1, 1, 1, 1, 1, 1, 1}, "a(any,long,any...)", "a(any,string,any...)");
        decidingAre(new int[] {NONE, NONE, 1, 2, NONE, NONE, NONE, NONE, NONE}, "a(long,string)", "a(long,boolean)",
                "a(any,any,long)", "a(any,any,string)");
        decidingAre(new int[] {NONE, 0, 1, 0, NONE, NONE, NONE, NONE, NONE}, "a(long)", "a(string)", "a(any,long)",
                "a(any,string)", "a(boolean,any,any)", "a(list<any>,any,any)");
    }

    private static void noDeciding() {
        decidingAre(new int[] {NONE, NONE, NONE, NONE, NONE, NONE, NONE, NONE, NONE}, "a(long,optional any)");
        decidingAre(new int[] {NONE, NONE, NONE, NONE, NONE, NONE, NONE, NONE, NONE}, "a(any...)");
        decidingAre(new int[] {NONE, NONE, NONE, NONE, NONE, NONE, NONE, NONE, NONE}, "a()", "a(any)", "a(any,any)",
                "a(any,any,any)");
        decidingAre(new int[] {NONE, NONE, NONE, NONE, 0, NONE, NONE, NONE, NONE}, "a(long,any,any,optional any)",
                "a(string,any,any,any)");
    }

    private static void decidingAboveTheMost() {
        decidingAre(new int[] {NONE, NONE, 0, NONE, NONE, NONE, NONE, NONE, NONE}, "a(long,any)", "a(string,any)");
        decidingAre(new int[] {NONE, 0, 0, 0, NONE, NONE, NONE, NONE, NONE}, "a(long,any,any)",
                "a(string,optional any,optional any)", "a(boolean)", "a(boolean,any)");
        // A call with so many still chooses by the one of the most.
        IdlCaller x = Check.with("a(long,any)", "a(string,any)");
        Check.tell(x, 0, "x");
        Check.due("call with 8", x.call(0, 8), 1);
        Check.due("call with 2", x.call(0, 2), 1);
        x.number(0, 5);
        Check.due("call with 3", x.call(0, 3), 0);
    }

    private static void operationThrows() {
        for (int i = -20; i <= 20; i++) {
            Expect.argument(i >= 0 && i <= 5, i, "operation of", x -> { }, (x, operation) -> x.operation(operation, 0));
            Expect.argument(i >= 0 && i <= 5, i, "operation of", x -> { }, (x, operation) -> x.operation(operation,
                    11));
        }
    }

    private static void whatThrows() {
        for (int i = -20; i <= 20; i++) {
            Expect.argument(i >= 0 && i <= 11, i, "operation, what", x -> { }, (x, what) -> x.operation(5, what));
            Expect.argument(i >= 0 && i <= 11, i, "operation, what", x -> Check.define(x, "a(any...)"), (x,
                    what) -> x.operation(0, what));
        }
    }

    // 13 to 17: what was converted.

    private static void kindOfLast() {
        IdlCaller x = Check.with("a(any...)", "b(long)", "c()");
        Check.tell(x, 0, "x");
        x.simple(1, 3);
        Check.due("call", x.call(0, 2), 0);
        Check.dueText("both", Check.showAll(x), "'x'; true");
        Check.due("call", x.call(1, 1), 0);
        Check.dueText("the last one", Check.showAll(x), "w0");
        Check.due("the second place is gone", x.kind(1), NONE);
        Check.due("refused", x.call(1, 0), KIND);
        Check.dueText("the last one that was not refused", Check.showAll(x), "w0");
        x.drop(1);
        x.simple(0, 1);
        Check.dueText("it stays when the FORM is dropped", Check.showAll(x), "w0");
        Check.due("call", x.call(2, 8), 0);
        Check.dueText("nothing", Check.showAll(x), "");
        Check.due("call", x.call(0, 8), 0);
        Check.dueText("eight", Check.showAll(x), "null; true; missing; missing; missing; missing; missing; missing");
    }

    private static void kinds() {
        IdlCaller x = Check.with("a(optional long,any...)", "b(long?,boolean,octet,double,enum(x))",
                "c(list<any>,any,any,any,any)");
        Expect.takes(x, 0, "missing; missing; null; true; d1.5; 'x'; [d1.5]; false", UNDEFINED, UNDEFINED, null, true,
                1.5, "x",
                Expect.list(1.5), false);
        int[] due = {0, 0, 8, 2, 4, 5, 6, 2};
        for (int k = 0; k < 8; k++) {
            Check.due("kind " + k, x.kind(k), due[k]);
        }
        x.simple(0, 1);
        x.simple(1, 2);
        x.number(2, 255.5);
        x.number(3, 255.5);
        Check.tell(x, 4, "x");
        Check.due("call", x.call(1, 5), 0);
        int[] dueOfB = {1, 2, 3, 4, 5};
        for (int k = 0; k < 5; k++) {
            Check.due("kind " + k, x.kind(k), dueOfB[k]);
        }
        x.simple(0, 4);
        x.simple(1, 0);
        Check.due("call", x.call(2, 5), 0);
        int[] dueOfC = {6, 7, 4, 4, 5};
        for (int k = 0; k < 5; k++) {
            Check.due("kind " + k, x.kind(k), dueOfC[k]);
        }
    }

    private static void noSuchPlace() {
        IdlCaller x = Check.with("a(any...)", "b(any,optional any,optional any)", "c()");
        for (int n = 1; n <= 8; n++) {
            Check.due("call", x.call(0, n), 0);
            Check.due("before the first place", x.kind(-1), NONE);
            Check.due("first place", x.kind(0), 0);
            Check.due("last place", x.kind(n - 1), 0);
            Check.due("behind the last place", x.kind(n), NONE);
            Check.due("far behind", x.kind(9), NONE);
        }
        Check.due("call", x.call(1, 1), 0);
        Check.due("a place for an ARGUMENT that is MISSING", x.kind(2), 0);
        Check.due("behind it", x.kind(3), NONE);
        Check.due("call", x.call(2, 0), 0);
        for (int k : new int[] {Integer.MIN_VALUE, -2, -1, 0, 1, 7, 8, 9, Integer.MAX_VALUE}) {
            Check.due("no place", x.kind(k), NONE);
        }
    }

    private static void item() {
        IdlCaller x = Check.with("a(any,list<long?>,list<boolean>,list<double>,list<string>)", "b(list<any>?)",
                "c(string)");
        x.simple(0, 4);
        x.simple(5, 0);
        x.add(0, 5);
        x.simple(5, 1);
        x.add(0, 5);
        x.simple(5, 3);
        x.add(0, 5);
        x.number(5, 1.5);
        x.add(0, 5);
        Check.tell(x, 5, "x");
        x.add(0, 5);
        Check.tellList(x, 1, null, 5.0);
        Check.tellList(x, 2, 1.0);
        Check.tellList(x, 3, 1.0);
        Check.tellList(x, 4, 1.0);
        Check.due("call", x.call(0, 5), 0);
        int[][] due = {{7, 8, 2, 4, 5, NONE}, {1, 3, NONE}, {2, NONE}, {4, NONE}, {5, NONE}};
        for (int k = 0; k < due.length; k++) {
            for (int i = 0; i < due[k].length; i++) {
                Check.due("item " + i + " of " + k, x.item(k, i), due[k][i]);
            }
            for (int i : new int[] {Integer.MIN_VALUE, -2, -1, 5, 6, 8, Integer.MAX_VALUE}) {
                Check.due("no item " + i + " of " + k, x.item(k, i), NONE);
            }
        }
        for (int k : new int[] {Integer.MIN_VALUE, -1, 5, 8, Integer.MAX_VALUE}) {
            Check.due("of no place", x.item(k, 0), NONE);
        }
        Check.due("call", x.call(2, 1), 0);
        Check.due("of what is no list", x.item(0, 0), NONE);
        x.simple(0, 1);
        Check.due("call", x.call(1, 1), 0);
        Check.due("of NULL", x.item(0, 0), NONE);
        x.simple(0, 4);
        Check.due("call", x.call(1, 1), 0);
        Check.due("of a list without VALUES", x.item(0, 0), NONE);
    }

    private static void wholeNumbers() {
        IdlCaller x = Check.with("a(long...)", "b(boolean...)", "c(list<long>,list<boolean>)");
        double[] values = {0, 1, -1, 2147483647, -2147483648.0, 128, -129, 65536};
        for (int slot = 0; slot < 8; slot++) {
            x.number(slot, values[slot]);
        }
        Check.due("call", x.call(0, 8), 0);
        for (int k = 0; k < 8; k++) {
            Check.due("whole " + k, x.whole(k, NONE), (long) values[k]);
        }
        Check.due("call", x.call(1, 8), 0);
        for (int k = 0; k < 8; k++) {
            Check.due("boolean " + k, x.whole(k, NONE), values[k] == 0 ? 0 : 1);
        }
        Check.tellList(x, 0, -5.0, 7.0);
        Check.tellList(x, 1, -5.0, 0.0);
        Check.due("call", x.call(2, 2), 0);
        Check.due("item", x.whole(0, 0), -5);
        Check.due("item", x.whole(0, 1), 7);
        Check.due("item", x.whole(1, 0), 1);
        Check.due("item", x.whole(1, 1), 0);
    }

    private static void sizes() {
        IdlCaller x = Check.with("a(any)", "b(string)", "c(list<string>)");
        for (int length = 0; length <= 12; length++) {
            Check.tell(x, 0, "abcdefghijkl".substring(0, length));
            Check.due("call", x.call(length % 2, 1), 0);
            Check.due("text of " + length, x.whole(0, NONE), length);
        }
        for (int size = 0; size <= 5; size++) {
            x.simple(0, 4);
            for (int i = 0; i < size; i++) {
                Check.tell(x, 1, "abcdefghijkl".substring(0, 12 - i));
                x.add(0, 1);
            }
            Check.due("call", x.call(0, 1), 0);
            Check.due("list of " + size, x.whole(0, NONE), size);
            Check.due("call", x.call(2, 1), 0);
            Check.due("list of " + size, x.whole(0, NONE), size);
            for (int i = 0; i < size; i++) {
                Check.due("text in a list", x.whole(0, i), 12 - i);
            }
        }
        Check.tellList(x, 0, -2147483647.875, -2147483647.875, -2147483647.875, -2147483647.875, -2147483647.875);
        Check.due("call", x.call(1, 1), 0);
        Check.due("the longest TEXT", x.whole(0, NONE), 79);
    }

    private static void wholeOfItem() {
        IdlCaller x = Check.with("a(list<long>,long,string)");
        Expect.takes(x, 0, "[w10 w20]; w30; 'forty'", Expect.list(10.0, 20.0), 30.0, "forty");
        Check.due("NONE: the place itself", x.whole(0, NONE), 2);
        Check.due("item 0", x.whole(0, 0), 10);
        Check.due("item 1", x.whole(0, 1), 20);
        for (int i : new int[] {Integer.MIN_VALUE, -3, -2, 2, 3, 5, Integer.MAX_VALUE}) {
            Check.due("no item " + i, x.whole(0, i), 0);
        }
        for (int i : new int[] {Integer.MIN_VALUE, -2, 0, 1, Integer.MAX_VALUE}) {
            Check.due("no item " + i + " of what is no list", x.whole(1, i), 0);
            Check.due("no item " + i + " of a text", x.whole(2, i), 0);
        }
        for (int k : new int[] {Integer.MIN_VALUE, -2, -1, 3, 8, Integer.MAX_VALUE}) {
            Check.due("no place " + k, x.whole(k, NONE), 0);
            Check.due("no place " + k, x.whole(k, 0), 0);
        }
    }

    private static void wholeOfAnother() {
        IdlCaller x = Check.with("a(long?,double,any,any,any...)", "b(list<double?>)");
        Expect.takes(x, 0, "NULL; d2.5; null; d7.0; missing", null, 2.5, null, 7.0, UNDEFINED);
        for (int k = 0; k < 5; k++) {
            Check.due("whole " + k, x.whole(k, NONE), 0);
        }
        Check.tellList(x, 0, 5.0, null);
        Check.due("call", x.call(1, 1), 0);
        Check.due("of a double", x.whole(0, 0), 0);
        Check.due("of NULL", x.whole(0, 1), 0);
        IdlCaller y = Check.with("a(any)");
        Check.due("call", y.call(0, 1), 0);
        Check.due("of undefined", y.whole(0, NONE), 0);
    }

    private static void real() {
        IdlCaller x = Check.with("a(double,any,list<double>,list<any>,double...)");
        Expect.takes(x, 0, "d1.5; d-2.5; [d3.125 d4.0]; [d-5.0 d6.875]; d7.0; d2.147483648E9", 1.5, -2.5,
                Expect.list("3.125", 4.0),
                Expect.list(-5.0, 6.875), "7", 2147483648.0);
        double[] due = {1.5, -2.5, 0, 0, 7, 2147483648.0};
        for (int k = 0; k < due.length; k++) {
            Check.dueReal("real " + k, x.real(k, NONE), due[k]);
        }
        Check.dueReal("item", x.real(2, 0), 3.125);
        Check.dueReal("item", x.real(2, 1), 4);
        Check.dueReal("item", x.real(3, 0), -5);
        Check.dueReal("item", x.real(3, 1), 6.875);
        for (int i : new int[] {Integer.MIN_VALUE, -2, 2, 5, Integer.MAX_VALUE}) {
            Check.dueReal("no item " + i, x.real(2, i), 0);
            Check.dueReal("no item " + i + " of what is no list", x.real(0, i), 0);
        }
        for (int k : new int[] {Integer.MIN_VALUE, -1, 6, 8, Integer.MAX_VALUE}) {
            Check.dueReal("no place", x.real(k, NONE), 0);
            Check.dueReal("no place", x.real(k, 0), 0);
        }
    }

    private static void realOfAnother() {
        IdlCaller x = Check.with("a(long,boolean,string,list<long?>,any...)", "b(long?,optional long)",
                "c(any,any,any)");
        Expect.takes(x, 0, "w5; true; '7'; [w8 NULL]; 'x'; missing; [true '5']; null", 5.0, 6.0, 7.0, Expect.list(8.0,
                null), "x", UNDEFINED,
                Expect.list(true, "5"), null);
        for (int k = 0; k < 8; k++) {
            Check.dueReal("real " + k, x.real(k, NONE), 0);
            Check.dueReal("item of " + k, x.real(k, 0), 0);
            Check.dueReal("item of " + k, x.real(k, 1), 0);
        }
        x.simple(0, 1);
        Check.due("call", x.call(1, 1), 0);
        Check.dueReal("of NULL", x.real(0, NONE), 0);
        Check.dueReal("of MISSING", x.real(1, NONE), 0);
        x.simple(0, 0);
        x.simple(1, 3);
        Check.tell(x, 2, "5");
        Check.due("call", x.call(2, 3), 0);
        for (int k = 0; k < 3; k++) {
            Check.dueReal("of any", x.real(k, NONE), 0);
        }
    }

    private static void sign() {
        IdlCaller x = Check.with("a(any,string,list<string>,enum(word),list<any>)");
        Expect.takes(x, 0, "'\u0001\u00ff'; '-1.5'; ['true' 'x']; 'word'; [d1.0 'yz']", "\u0001\u00ff", -1.5,
                Expect.list(true, "x"), "word",
                Expect.list(1.0, "yz"));
        Check.due("first", x.sign(0, NONE, 0), 1);
        Check.due("second", x.sign(0, NONE, 1), 255);
        Check.due("of a TEXT", x.sign(1, NONE, 0), '-');
        Check.due("of a TEXT", x.sign(1, NONE, 3), '5');
        Check.due("of an item", x.sign(2, 0, 3), 'e');
        Check.due("of an item", x.sign(2, 1, 0), 'x');
        Check.due("of an enum", x.sign(3, NONE, 3), 'd');
        Check.due("of any", x.sign(4, 1, 1), 'z');
        IdlCaller longest = Check.with("a(string)");
        Expect.takes(longest, 0, "'abcdefghijkl,abcdefghijkl,abcdefghijkl,abcdefghijkl,abcdefghijkl'",
                (Object) Expect.list("abcdefghijkl", "abcdefghijkl", "abcdefghijkl", "abcdefghijkl", "abcdefghijkl"));
        Check.due("the last one of the longest", longest.sign(0, NONE, 63), 'l');
        Check.due("behind it", longest.sign(0, NONE, 64), ' ');
    }

    private static void noSign() {
        IdlCaller x = Check.with("a(string,list<string>,long,boolean,any...)");
        Expect.takes(x, 0, "'abc'; ['de']; w97; true; d98.0; missing; [true]; null", "abc", Expect.list("de"), 97.0,
                true, 98.0, UNDEFINED,
                Expect.list(true), null);
        for (int c : new int[] {Integer.MIN_VALUE, -2, -1, 3, 4, 12, 84, Integer.MAX_VALUE}) {
            Check.due("no character " + c, x.sign(0, NONE, c), ' ');
            Check.due("no character " + c + " of an item", x.sign(1, 0, c), ' ');
        }
        Check.due("no character 2 of an item", x.sign(1, 0, 2), ' ');
        for (int k = 1; k < 8; k++) {
            Check.due("of what is no text", x.sign(k, NONE, 0), ' ');
        }
        Check.due("of an item that is no text", x.sign(6, 0, 0), ' ');
        for (int i : new int[] {Integer.MIN_VALUE, -2, 1, 5, Integer.MAX_VALUE}) {
            Check.due("no item " + i, x.sign(1, i, 0), ' ');
            Check.due("no item " + i + " of a text", x.sign(0, i, 0), ' ');
        }
        Check.due("no item 0 of a text", x.sign(0, 0, 0), ' ');
        for (int k : new int[] {Integer.MIN_VALUE, -1, 8, 9, Integer.MAX_VALUE}) {
            Check.due("no place", x.sign(k, NONE, 0), ' ');
            Check.due("no place", x.sign(k, 0, 0), ' ');
        }
        Expect.takes(x, 0, "''; []; w0; false; missing", "", Expect.list(), 0.0, false);
        Check.due("of a text without characters", x.sign(0, NONE, 0), ' ');
        Check.due("of what is not there any more", x.sign(1, 0, 0), ' ');
    }
}
