import java.util.LinkedHashMap;
import java.util.Map;

/** What is refused and what throws changes nothing; and what the face and the document's beginning say. */
final class RefusalSentences {
    private static final int MIN = Integer.MIN_VALUE;
    private static final int MAX = Integer.MAX_VALUE;
    private static final int[] FAR = {MIN, MIN + 1, -65536, -256, -129, -128, -100, -13, -9, -8, -7, -6, -5, -4, -3, -2,
        -1, 0, 1, 2, 3, 4, 5, 6, 7, 8, 9, 10, 11, 12, 13, 16, 32, 100, 127, 128, 255, 256, 257, 512, 65536, 1 << 24,
        MAX - 1, MAX};

    private RefusalSentences() {
    }

    static void tell(Sentences all) {
        String terms = "Terms";
        all.holds(terms, "A call that is refused changes nothing but place;", RefusalSentences::refused);
        all.holds(terms, "what throws changes nothing (place, too).", RefusalSentences::thrown);
        all.holds(terms, "IllegalArgument is thrown where a number is none of those told here.",
                RefusalSentences::noneOfThoseTold);
        String face = "The public face";
        all.holds(face, "public int type(int a, int b, int c, int d, int e) throws IllegalStateException;",
                RefusalSentences::typeThrows);
        all.holds(face, "public int erase();", () -> never(x -> x.erase()));
        all.holds(face, "public int define();", RefusalSentences::defineThrows);
        all.holds(face, "public int drop(int operation) throws IllegalArgumentException;",
                () -> onlyArgument((x, i, j) -> x.drop(i), 0, 5, MIN, MAX));
        all.holds(face, "public int place();", () -> never(x -> x.place()));
        all.holds(face, "public void simple(int slot, int what) throws IllegalArgumentException;",
                () -> onlyArgument((x, i, j) -> x.simple(i, j), 0, 7, 0, 4));
        all.holds(face, "public void number(int slot, double value) throws IllegalArgumentException;",
                () -> onlyArgument((x, i, j) -> x.number(i, j), 0, 7, MIN, MAX));
        all.holds(face, "public int text(int slot, int a, int b, int c) throws IllegalArgumentException;",
                () -> onlyArgument((x, i, j) -> x.text(i, j, j, j), 0, 7, MIN, MAX));
        all.holds(face, "public int add(int list, int from) throws IllegalArgumentException, IllegalStateException;",
                RefusalSentences::addThrows);
        all.holds(face, "public int call(int operation, int n) throws IllegalArgumentException;",
                () -> onlyArgument((x, i, j) -> x.call(i, j), 0, 5, 0, 8));
        all.holds(face, "public int operation(int operation, int what) throws IllegalArgumentException;",
                () -> onlyArgument((x, i, j) -> x.operation(i, j), 0, 5, 0, 11));
        all.holds(face, "public int kind(int k);", () -> onlyArgument((x, i, j) -> x.kind(i), MIN, MAX, MIN, MAX));
        all.holds(face, "public int item(int k, int i);", () -> onlyArgument((x, i, j) -> x.item(i, j), MIN, MAX, MIN,
                MAX));
        all.holds(face, "public long whole(int k, int i);", () -> onlyArgument((x, i, j) -> x.whole(i, j), MIN, MAX,
                MIN, MAX));
        all.holds(face, "public double real(int k, int i);", () -> onlyArgument((x, i, j) -> x.real(i, j), MIN, MAX,
                MIN, MAX));
        all.holds(face, "public char sign(int k, int i, int c);", RefusalSentences::signThrows);
        all.holds("What it is", "An object is used for at most 512 calls after it has been made;",
                RefusalSentences::fiveHundredAndTwelve);
    }

    // What is refused.

    private static void refused() {
        String[] lines = {"^", "  ^", "^g()", "a(^", "a(^lon)", "a(any^?)", "b(long,long,long^",
            "a(optional long,any^)", "a(enum(x,^x))", "f(long,long,long,long,long^,long)", "d()^)", "a([E]^any)"};
        for (String line : lines) {
            defineIsRefused(IdlCaller.SIGN, line.replace("^", ""), line.indexOf('^'));
        }
        defineIsRefused(IdlCaller.SAME, "a()", 0);
        defineIsRefused(IdlCaller.SAME, "a(short)", 1);
        defineIsRefused(IdlCaller.SAME, "a(any,any,any)", 3);
        defineIsRefused(IdlCaller.SAME, "b(any,any,any,any,any)", 5);
        defineIsRefused(IdlCaller.SAME, "c(boolean,boolean)", 2);
        defineIsRefused(IdlCaller.FULL, "a(any,any)", IdlCaller.NONE);
        defineIsRefused(IdlCaller.FULL, "a(boolean)", IdlCaller.NONE);
        // No FORMS for n; refused before, at and behind the DECIDING one, after some were converted.
        callIsRefused(3, 8, 8, x -> { });
        callIsRefused(0, 2, 2, x -> { });
        callIsRefused(2, 0, 0, x -> { });
        callIsRefused(0, 1, 0, x -> x.number(0, 256));
        callIsRefused(0, 3, 1, x -> x.simple(1, 4));
        callIsRefused(0, 3, 2, x -> x.number(2, 2147483648.0));
        callIsRefused(5, 8, 0, x -> x.simple(0, 0));
        callIsRefused(3, 8, 2, x -> Check.define(x, "d(any,list<any>...)"), x -> x.simple(1, 4));
        callIsRefused(3, 8, 7, x -> Check.define(x, "d(string,[E]long,[E]octet...)"), x -> {
            for (int slot = 0; slot < 8; slot++) {
                x.number(slot, slot < 7 ? 5 : -1);
            }
        });
        callIsRefused(3, 3, 2, x -> Check.define(x, "d(any,list<string>,list<[E]octet>)"), x -> {
            Check.tellList(x, 2, 1.0, 2.0, -1.0);
            Check.tellList(x, 1, "y", "z");
        });
    }

    private static void defineIsRefused(int answer, String line, int place) {
        for (boolean withPlace : new boolean[] {false, true}) {
            Twins.unchangedButPlace("define of " + line, place, x -> {
                if (withPlace) {
                    Twins.toldAndRefused(x);
                } else {
                    Twins.told(x);
                }
                x.erase();
                Check.typeMore(x, line);
            }, x -> Check.due("define of " + line, x.define(), answer));
        }
    }

    private static void callIsRefused(int operation, int n, int place, Twins.Calls... more) {
        for (boolean withPlace : new boolean[] {false, true}) {
            Twins.unchangedButPlace("call of " + operation + " with " + n, place, x -> {
                if (withPlace) {
                    Twins.toldAndRefused(x);
                } else {
                    Twins.told(x);
                }
                for (Twins.Calls calls : more) {
                    calls.on(x);
                }
            }, x -> Check.due("call of " + operation + " with " + n, x.call(operation, n), IdlCaller.KIND));
        }
    }

    // What throws.

    private static void thrown() {
        for (Map.Entry<String, Twins.Calls> wrong : wrongNumbers().entrySet()) {
            for (Twins.Calls before : new Twins.Calls[] {Twins::fresh, Twins::told, Twins::toldAndRefused}) {
                Twins.unchanged(wrong.getKey(), before,
                        x -> Check.refusesArgument(wrong.getKey(), () -> wrong.getValue().on(x)));
            }
        }
        for (Twins.Calls before : new Twins.Calls[] {Twins::told, Twins::toldAndRefused}) {
            stateThrows("add of a sixth", before, x -> x.add(0, 2));
            stateThrows("add of a LIST", before, x -> x.add(6, 0));
            stateThrows("add of itself", before, x -> x.add(6, 6));
            for (int slot : new int[] {1, 2, 3, 4, 5, 7}) {
                stateThrows("add to what is no LIST", before, x -> x.add(slot, 2));
                stateThrows("add to what is no LIST of a LIST", before, x -> x.add(slot, 6));
            }
            stateThrows("type of 20 more than 81", x -> {
                before.on(x);
                Check.typeMore(x, "       ");
            }, x -> x.type(-1, -1, -1, -1, -1));
            stateThrows("type of one more than 100", x -> {
                before.on(x);
                Check.typeMore(x, " ".repeat(26));
            }, x -> x.type(0, 0, 0x7800, 0, 0));
            stateThrows("type of two more than 99", x -> {
                before.on(x);
                Check.typeMore(x, " ".repeat(25));
            }, x -> x.type(' ', 0, 0, 0, ' '));
        }
    }

    private static void stateThrows(String what, Twins.Calls before, Twins.Calls call) {
        Twins.unchanged(what, before, x -> Check.refusesState(what, () -> call.on(x)));
    }

    /** Each number that is told has a neighbour that is not. */
    private static Map<String, Twins.Calls> wrongNumbers() {
        Map<String, Twins.Calls> wrong = new LinkedHashMap<>();
        for (int i : new int[] {-1, 6, MIN, MAX}) {
            wrong.put("drop of " + i, x -> x.drop(i));
            wrong.put("call of " + i, x -> x.call(i, 1));
            wrong.put("operation of " + i, x -> x.operation(i, 0));
        }
        for (int i : new int[] {-1, 9, MIN, MAX}) {
            wrong.put("call with " + i, x -> x.call(0, i));
            wrong.put("call without FORMS with " + i, x -> x.call(3, i));
        }
        for (int i : new int[] {-1, 12, MIN, MAX}) {
            wrong.put("operation, what = " + i, x -> x.operation(0, i));
        }
        for (int i : new int[] {-1, 8, MIN, MAX}) {
            for (int what = 0; what < 5; what++) {
                int told = what;
                wrong.put("simple of " + i + ", what = " + what, x -> x.simple(i, told));
            }
            wrong.put("number of " + i, x -> x.number(i, 1));
            wrong.put("text of " + i, x -> x.text(i, 'x', 0, 0));
            wrong.put("add to " + i, x -> x.add(i, 1));
            wrong.put("add from " + i, x -> x.add(6, i));
        }
        for (int i : new int[] {-1, 5, MIN, MAX}) {
            for (int slot = 0; slot < 8; slot++) {
                int told = slot;
                wrong.put("simple of " + slot + ", what = " + i, x -> x.simple(told, i));
            }
        }
        for (double value : new double[] {2147483648.125, -2147483648.125, 0.0625, 1e300, Double.NaN,
                Double.NEGATIVE_INFINITY}) {
            for (int slot = 0; slot < 8; slot++) {
                int told = slot;
                wrong.put("number of " + slot + ", " + value, x -> x.number(told, value));
            }
        }
        return wrong;
    }

    private static void noneOfThoseTold() {
        for (int i : FAR) {
            throwsUnless(i >= 0 && i <= 5, "drop of " + i, x -> x.drop(i));
            throwsUnless(i >= 0 && i <= 5, "call of " + i, x -> x.call(i, 0));
            throwsUnless(i >= 0 && i <= 5, "operation of " + i, x -> x.operation(i, 0));
            throwsUnless(i >= 0 && i <= 8, "call with " + i, x -> x.call(5, i));
            throwsUnless(i >= 0 && i <= 11, "operation, what = " + i, x -> x.operation(5, i));
            throwsUnless(i >= 0 && i <= 7, "simple of " + i, x -> x.simple(i, 4));
            throwsUnless(i >= 0 && i <= 4, "simple, what = " + i, x -> x.simple(7, i));
            throwsUnless(i >= 0 && i <= 7, "number of " + i, x -> x.number(i, 1));
            throwsUnless(i >= 0 && i <= 7, "text of " + i, x -> x.text(i, 0, 0, 0));
            throwsUnless(i >= 1 && i <= 7, "add from " + i, x -> {
                x.simple(0, 4);
                // A LIST itself is another matter.
                x.add(0, i == 0 ? -1 : i);
            });
            throwsUnless(i >= 0 && i <= 7, "add to " + i, x -> {
                if (i >= 0 && i <= 7) {
                    x.simple(i, 4);
                }
                x.add(i, i == 3 ? 4 : 3);
            });
        }
    }

    private static void throwsUnless(boolean good, String what, Twins.Calls calls) {
        IdlCaller x = new IdlCaller();
        if (good) {
            calls.on(x);
        } else {
            Check.refusesArgument(what, () -> calls.on(x));
        }
    }

    // The face: what a method does not tell is never thrown.

    private interface TwoNumbers {
        void on(IdlCaller x, int i, int j);
    }

    /** With numbers of these bounds nothing is thrown, with others IllegalArgument, whatever came before. */
    private static void onlyArgument(TwoNumbers calls, int least, int most, int leastSecond, int mostSecond) {
        for (Twins.Calls before : new Twins.Calls[] {Twins::fresh, Twins::told, Twins::toldAndRefused}) {
            for (int i : FAR) {
                IdlCaller x = new IdlCaller();
                before.on(x);
                for (int j : FAR) {
                    if (i >= least && i <= most && j >= leastSecond && j <= mostSecond) {
                        calls.on(x, i, j);
                    } else {
                        Check.refusesArgument("with " + i + ", " + j, () -> calls.on(x, i, j));
                    }
                }
            }
        }
    }

    private static void never(Twins.Calls call) {
        for (Twins.Calls before : new Twins.Calls[] {Twins::fresh, Twins::told, Twins::toldAndRefused}) {
            IdlCaller x = new IdlCaller();
            before.on(x);
            for (int i = 0; i < 20; i++) {
                call.on(x);
            }
        }
    }

    private static void typeThrows() {
        for (int a : FAR) {
            IdlCaller x = new IdlCaller();
            int length = 0;
            for (int i = 0; i < 30; i++) {
                int more = 5 * (bytes(a));
                if (length + more <= 100) {
                    length += more;
                    Check.due("type of " + a, x.type(a, a, a, a, a), length);
                } else {
                    Check.refusesState("type of " + a, () -> x.type(a, a, a, a, a));
                }
            }
        }
    }

    private static int bytes(int four) {
        int count = 0;
        for (int shift = 0; shift < 32; shift += 8) {
            count += (four >>> shift & 255) != 0 ? 1 : 0;
        }
        return count;
    }

    private static void defineThrows() {
        never(x -> x.define());
        // Whatever is typed: each character alone, and a hundred of each.
        for (int sign = 1; sign <= 255; sign++) {
            for (String front : new String[] {"", "a(", "a(long", "a([", "a(list<", "a(enum("}) {
                IdlCaller x = new IdlCaller();
                Check.typeMore(x, front + (char) sign);
                boolean good = x.define() >= 0;
                boolean due = sign == ')' && (front.equals("a(") || front.equals("a(long"));
                Check.due("define of " + front + " and " + sign, good ? 1 : 0, due ? 1 : 0);
                IdlCaller many = new IdlCaller();
                Check.typeMore(many, front + ("" + (char) sign).repeat(100 - front.length()));
                Check.due("define of " + front + " and many of " + sign, many.define(), IdlCaller.SIGN);
            }
        }
    }

    private static void addThrows() {
        for (Twins.Calls before : new Twins.Calls[] {Twins::fresh, Twins::told, Twins::toldAndRefused}) {
            for (int list : FAR) {
                for (int from : FAR) {
                    IdlCaller x = new IdlCaller();
                    before.on(x);
                    boolean told = x.operation(0, 0) > 0;
                    if (list < 0 || list > 7 || from < 0 || from > 7) {
                        Check.refusesArgument("add " + list + ", " + from, () -> x.add(list, from));
                    } else if (told && list == 6 && from != 0 && from != 6) {
                        Check.due("add " + list + ", " + from, x.add(list, from), 1);
                    } else {
                        Check.refusesState("add " + list + ", " + from, () -> x.add(list, from));
                    }
                }
            }
        }
    }

    private static void signThrows() {
        for (Twins.Calls before : new Twins.Calls[] {Twins::fresh, Twins::told, Twins::toldAndRefused}) {
            for (int k : FAR) {
                for (int i : FAR) {
                    IdlCaller x = new IdlCaller();
                    before.on(x);
                    boolean told = x.operation(0, 0) > 0;
                    for (int c : FAR) {
                        char due = told && i == IdlCaller.NONE && k == 7 && c >= 0 && c < 12 ? (char) ('a' + c)
                                : told && i == IdlCaller.NONE && k == 1 && c >= 0 && c < 2 ? "on".charAt(c) : ' ';
                        Check.due("sign " + k + ", " + i + ", " + c, x.sign(k, i, c), due);
                    }
                }
            }
        }
    }

    // Up to the 512th call all is as it was at first.

    private static void fiveHundredAndTwelve() {
        IdlCaller x = new IdlCaller();
        for (int i = 0; i < 128; i++) {
            Check.due("type", x.type(0x61286c6f, 0x6e673f2c, 0x6c697374, 0x3c616e79, 0x3e3f2900), 19);
            Check.due("define", x.define(), 0);
            Check.due("drop", x.drop(0), 1);
            Check.due("erase", x.erase(), 19);
        }
        IdlCaller sames = new IdlCaller();
        sames.type(0x61282900, 0, 0, 0, 0);
        for (int i = 1; i < 512; i++) {
            Check.due("define again", sames.define(), i == 1 ? 0 : IdlCaller.SAME);
        }
        IdlCaller signs = new IdlCaller();
        signs.type(0x6128656e, 0x756d2861, 0x2c622c63, 0x2c642c65, 0x2c000000);
        for (int i = 1; i < 512; i++) {
            Check.due("define of what is none", signs.define(), IdlCaller.SIGN);
        }
        IdlCaller calls = new IdlCaller();
        calls.type(0x6128616e, 0x792e2e2e, 0x29000000, 0, 0);
        calls.define();
        for (int i = 0; i < 102; i++) {
            calls.simple(0, 4);
            calls.number(1, i);
            Check.due("add", calls.add(0, 1), 1);
            Check.due("call", calls.call(0, 8), 0);
            Check.due("whole", calls.whole(0, IdlCaller.NONE), 1);
        }
        IdlCaller lists = new IdlCaller();
        for (int i = 0; i < 85; i++) {
            lists.simple(7, 4);
            for (int size = 1; size <= 5; size++) {
                Check.due("add", lists.add(7, 0), size);
            }
        }
        IdlCaller types = new IdlCaller();
        for (int i = 0; i < 85; i++) {
            for (int length = 20; length <= 100; length += 20) {
                Check.due("type", types.type(-1, -1, -1, -1, -1), length);
            }
            Check.due("erase", types.erase(), 100);
        }
        // Six FORMS again and again: each round is one type, an erase and six defines with their types.
        IdlCaller forms = new IdlCaller();
        String[] six = {"a()", "a(long)", "a(string)", "a(boolean)", "a(any,any)", "a(list<any>)"};
        for (int round = 0; round < 20; round++) {
            for (int i = 0; i < 6; i++) {
                Check.due("define", Check.define(forms, six[i]), i);
            }
            Check.due("drop", forms.drop(0), 6);
        }
    }
}
