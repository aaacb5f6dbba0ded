/** What the promises 1 to 10 say: objects, THE LINE, define, drop, place and SLOTS. */
final class PromiseSentences {
    private static final int NONE = IdlCaller.NONE;
    private static final int SIGN = IdlCaller.SIGN;
    private static final int SAME = IdlCaller.SAME;
    private static final int FULL = IdlCaller.FULL;
    private static final int KIND = IdlCaller.KIND;
    private static final Object UNDEFINED = Expect.UNDEFINED;

    private PromiseSentences() {
    }

    static void tell(Sentences all) {
        tellOfObjects(all);
        tellOfDefine(all);
        tellOfSlots(all);
    }

    private static void tellOfObjects(Sentences all) {
        all.holds("Promise 1", "No FORMS,", PromiseSentences::noForms);
        all.holds("Promise 1", "an empty LINE,", PromiseSentences::emptyLine);
        all.holds("Promise 1", "SLOTS undefined,", PromiseSentences::slotsUndefined);
        all.holds("Promise 1", "nothing converted.", PromiseSentences::nothingConverted);
        all.holds("Promise 2", "Up to twenty characters more:", PromiseSentences::twenty);
        all.holds("Promise 2", "four in each number, the highest byte first;", PromiseSentences::highestFirst);
        all.holds("Promise 2", "a byte 0 is none.", PromiseSentences::zeroIsNone);
        all.holds("Promise 2", "How many THE LINE has.", PromiseSentences::howManyOfLine);
        all.holds("Promise 2", "IllegalState: it would have more than 100.", PromiseSentences::moreThanHundred);
        all.holds("Promise 3", "THE LINE is empty: how many it had.", PromiseSentences::erase);
    }

    private static void tellOfDefine(Sentences all) {
        all.holds("Promise 4", "THE LINE, which stays,", PromiseSentences::lineStays);
        all.holds("Promise 4", "is one more FORM of its OPERATION: its number;", PromiseSentences::oneMore);
        all.holds("Promise 4", "or SIGN, where it cannot go on", PromiseSentences::whereItCannotGoOn);
        all.holds("Promise 4", "(its length, if it ends too soon;", PromiseSentences::endsTooSoon);
        all.holds("Promise 4", "the first letter of a word that cannot be there", PromiseSentences::firstLetter);
        all.holds("Promise 4", "(a WORD of nine letters,", PromiseSentences::nineLetters);
        all.holds("Promise 4", "and the name of a TYPE that THE LINE breaks off, too));", PromiseSentences::brokenOff);
        all.holds("Promise 4", "SAME, if it could not be told from the FORMS that there are", PromiseSentences::same);
        all.holds("Promise 4", "(place: the least n with which that is so);", PromiseSentences::leastN);
        all.holds("Promise 4", "FULL: there are six", PromiseSentences::full);
        all.holds("Promise 4", "(place NONE;", PromiseSentences::fullPlace);
        all.holds("Promise 4", "SAME goes before).", PromiseSentences::sameBeforeFull);
        all.holds("Promise 5", "An OPERATION 0 .. 5 has no FORMS: how many it had.", PromiseSentences::drop);
        all.holds("Promise 5", "IllegalArgument.", PromiseSentences::dropThrows);
        all.holds("Promise 6", "Place of the last SIGN, SAME or KIND (the SLOT) of define or call;",
                PromiseSentences::placeOfLast);
        all.holds("Promise 6", "NONE if the last of these had none,", PromiseSentences::placeOfNone);
        all.holds("Promise 6", "or there was none.", PromiseSentences::placeAtFirst);
    }

    private static void tellOfSlots(Sentences all) {
        all.holds("Promise 7",
                "A SLOT is undefined (what = 0), null (1), false (2), true (3), a LIST without VALUES (4).",
                PromiseSentences::simple);
        all.holds("Promise 7", "IllegalArgument.", PromiseSentences::simpleThrows);
        all.holds("Promise 8", "A SLOT is a number.", PromiseSentences::number);
        all.holds("Promise 8", "IllegalArgument: another SLOT,", PromiseSentences::numberOfAnotherSlot);
        all.holds("Promise 8", "or it is not -2^31 .. 2^31,", PromiseSentences::numberOutOfBounds);
        all.holds("Promise 8", "or no multiple of 1 / 8.", PromiseSentences::noEighths);
        all.holds("Promise 9", "A SLOT is a text, as with type:", PromiseSentences::text);
        all.holds("Promise 9", "how many characters.", PromiseSentences::howManyOfText);
        all.holds("Promise 9", "IllegalArgument.", PromiseSentences::textThrows);
        all.holds("Promise 10", "The VALUE of one SLOT comes behind the LIST of another one:", PromiseSentences::add);
        all.holds("Promise 10", "how many it has.", PromiseSentences::howManyOfList);
        all.holds("Promise 10", "IllegalArgument.", PromiseSentences::addThrows);
        all.holds("Promise 10", "IllegalState: that is no LIST,", PromiseSentences::addToNoList);
        all.holds("Promise 10", "or has five,", PromiseSentences::addToFive);
        all.holds("Promise 10", "or the first one is a LIST.", PromiseSentences::addOfList);
    }

    // 1: a new object.

    private static void noForms() {
        IdlCaller x = new IdlCaller();
        for (int operation = 0; operation < 6; operation++) {
            Check.due("FORMS", x.operation(operation, 0), 0);
            Check.due("call", x.call(operation, 0), KIND);
            Check.due("drop", x.drop(operation), 0);
        }
        Check.due("the first FORM", Check.define(x, "f()"), 0);
        IdlCaller another = new IdlCaller();
        Check.due("FORMS of another object", another.operation(5, 0), 0);
    }

    private static void emptyLine() {
        Check.due("erase", new IdlCaller().erase(), 0);
        Check.due("type of nothing", new IdlCaller().type(0, 0, 0, 0, 0), 0);
        Check.due("type of one", new IdlCaller().type(0, 0, 'a', 0, 0), 1);
        IdlCaller x = new IdlCaller();
        Check.due("define", x.define(), SIGN);
        Check.due("place", x.place(), 0);
        IdlCaller typed = new IdlCaller();
        typed.type('a', 0, 0, 0, 0);
        Check.due("LINE of another object", new IdlCaller().erase(), 0);
    }

    private static void slotsUndefined() {
        IdlCaller x = Check.with("a(any,string...)", "b(any,any,any,any,any)", "c(optional [E]long,[E]long...)");
        Check.due("call", x.call(1, 5), 0);
        Check.dueText("as any", Check.showAll(x), "undefined; undefined; undefined; undefined; undefined");
        Check.due("call", x.call(2, 8), 0);
        Check.dueText("where they are MISSING", Check.showAll(x),
                "missing; missing; missing; missing; missing; missing; missing; missing");
        IdlCaller told = new IdlCaller();
        told.number(0, 5);
        told.simple(7, 4);
        IdlCaller another = Check.with("a(any...)", "b(any)");
        Check.due("call", another.call(1, 1), 0);
        Check.dueText("SLOT of another object", Check.showAll(another), "undefined");
    }

    private static void nothingConverted() {
        IdlCaller before = Check.with("a(any...)");
        Check.tell(before, 0, "x");
        Check.due("call of another object", before.call(0, 8), 0);
        IdlCaller x = new IdlCaller();
        for (int k = -1; k <= 8; k++) {
            Check.due("kind", x.kind(k), NONE);
            Check.due("item", x.item(k, 0), NONE);
            Check.due("whole", x.whole(k, NONE), 0);
            Check.dueReal("real", x.real(k, NONE), 0);
            Check.due("sign", x.sign(k, NONE, 0), ' ');
        }
    }

    // 2 and 3: THE LINE.

    private static void twenty() {
        IdlCaller x = new IdlCaller();
        int[] full = {0x61286f63, 0x7465742c, 0x73747269, 0x6e672c61, 0x6e793f29};
        Check.due("twenty", x.type(full[0], full[1], full[2], full[3], full[4]), 20);
        Check.due("define", x.define(), SIGN);
        Check.due("the nineteenth cannot be there", x.place(), 18);
        x.erase();
        Check.due("twenty", x.type(full[0], full[1], full[2], full[3], 0x6e792029), 20);
        Check.due("define", x.define(), 0);
        x.erase();
        Check.due("nineteen", x.type(full[0], full[1], full[2], full[3], 0x6e790029), 19);
        Check.due("nothing", x.type(0, 0, 0, 0, 0), 19);
        Check.due("one", x.type(0, 0, 0, 0, 1), 20);
    }

    private static void highestFirst() {
        for (int place = 0; place < 20; place++) {
            int[] numbers = {0x20202020, 0x20202020, 0x20202020, 0x20202020, 0x20202020};
            numbers[place / 4] ^= 1 << 24 - place % 4 * 8;
            IdlCaller x = new IdlCaller();
            Check.due("type", x.type(numbers[0], numbers[1], numbers[2], numbers[3], numbers[4]), 20);
            Check.due("define of blanks and a !", x.define(), SIGN);
            Check.due("place of the !", x.place(), place);
        }
        IdlCaller x = new IdlCaller();
        Check.due("five numbers", x.type('b' << 24 | '(' << 16 | 'l' << 8 | 'o', 'n' << 24 | 'g' << 16 | ',' << 8 | 'a',
                'n' << 24 | 'y' << 16 | ',' << 8 | 's', 't' << 24 | 'r' << 16 | 'i' << 8 | 'n', 'g' << 24 | ')' << 16),
                        18);
        Check.due("define", x.define(), 0);
        Check.due("of b", x.operation(1, 1), 3);
        x.number(0, 7);
        x.number(1, 7);
        x.number(2, 7);
        Check.due("call", x.call(1, 3), 0);
        Check.dueText("TYPES in their order", Check.showAll(x), "w7; d7.0; '7'");
    }

    private static void zeroIsNone() {
        IdlCaller x = new IdlCaller();
        Check.due("nothing", x.type(0, 0, 0, 0, 0), 0);
        Check.due("first byte", x.type('a' << 24, 0, 0, 0, 0), 1);
        Check.due("second byte", x.type(0, '(' << 16, 0, 0, 0), 2);
        Check.due("third byte", x.type(0, 0, 'l' << 8, 0, 0), 3);
        Check.due("fourth byte", x.type(0, 0, 0, 'o', 0), 4);
        Check.due("two", x.type(0, 0, 0, 0, 'n' << 24 | 'g'), 6);
        Check.due("all but 1, 255 and 0x80", x.type(0, ')', 0, 0, 0), 7);
        Check.due("define", x.define(), 0);
        x.erase();
        Check.due("bytes that are not 0", x.type(0x01010101, 0x80808080, -1, 0x00010000, 0x01000000), 14);
    }

    private static void howManyOfLine() {
        IdlCaller x = new IdlCaller();
        for (int length = 1; length <= 100; length++) {
            Check.due("type", x.type(0, 0, 0, 0, length), length);
        }
        Check.due("type of nothing", x.type(0, 0, 0, 0, 0), 100);
        x.erase();
        Check.due("type", x.type('a', 0, 0, 0, 0), 1);
        x.define();
        Check.due("type", x.type(0, 0, 0, 0, 0x61620000), 3);
        Check.due("blanks count, too", x.type(0x20202020, 0, 0, 0, 0), 7);
    }

    private static void moreThanHundred() {
        for (int length = 80; length <= 100; length++) {
            IdlCaller x = new IdlCaller();
            Check.typeMore(x, "a(" + " ".repeat(length - 2));
            int room = 100 - length;
            if (room < 20) {
                Check.refusesState("one more than there is room", () -> typeMany(x, room + 1));
            }
            Check.refusesState("20 more than 81", () -> {
                if (room == 20) {
                    x.type('x', 0, 0, 0, 0);
                }
                x.type(-1, -1, -1, -1, -1);
            });
            int now = Math.max(length, 81);
            Check.due("length", x.type(0, 0, 0, 0, 0), now);
            Check.due("as many as there is room", typeMany(x, 100 - now), 100);
            Check.refusesState("one more than 100", () -> x.type(0, 1, 0, 0, 0));
            Check.due("length", x.erase(), 100);
        }
    }

    /** Blanks, the last ones first. */
    private static int typeMany(IdlCaller x, int count) {
        int[] numbers = new int[5];
        for (int i = 0; i < count; i++) {
            numbers[4 - i / 4] |= ' ' << 8 * (i % 4);
        }
        return x.type(numbers[0], numbers[1], numbers[2], numbers[3], numbers[4]);
    }

    private static void erase() {
        for (int length : new int[] {0, 1, 2, 20, 99, 100}) {
            IdlCaller x = new IdlCaller();
            Check.typeMore(x, " ".repeat(length));
            Check.due("how many it had", x.erase(), length);
            Check.due("it is empty", x.type(0, 0, 0, 0, 0), 0);
            Check.due("erase of nothing", x.erase(), 0);
            Check.due("define", x.define(), SIGN);
            Check.due("place", x.place(), 0);
            Check.due("room for all", Check.typeMore(x, "a()" + " ".repeat(97)), 100);
            Check.due("nothing of the old one is there", x.define(), 0);
        }
        IdlCaller x = Check.with("a(long)");
        x.erase();
        Check.due("FORMS stay", x.operation(0, 0), 1);
    }

    // 4: define.

    private static void lineStays() {
        IdlCaller x = new IdlCaller();
        Check.due("type", Check.typeMore(x, "a(long"), 6);
        Check.due("define", x.define(), SIGN);
        Check.due("it stays after SIGN", x.type(0, 0, 0, 0, 0), 6);
        Check.due("type", Check.typeMore(x, ")"), 7);
        Check.due("define", x.define(), 0);
        Check.due("it stays after a number", x.type(0, 0, 0, 0, 0), 7);
        Check.due("define again", x.define(), SAME);
        Check.due("it stays after SAME", x.type(0, 0, 0, 0, 0), 7);
        x.drop(0);
        Check.due("define again", x.define(), 0);
        for (String form : new String[] {"a()", "a(string)", "a(boolean)", "a(list<any>)", "a(any,any)"}) {
            Check.define(x, form);
        }
        Check.due("FULL", Check.define(x, "a(any,any,any)"), FULL);
        Check.due("it stays after FULL", x.type(0, 0, 0, 0, 0), 14);
        x.drop(0);
        Check.due("define again", x.define(), 0);
    }

    private static void oneMore() {
        IdlCaller x = new IdlCaller();
        String[] forms = {"a()", "b()", "a(long)", "a(string)", "f(any)", "b(any)", "a(boolean)", "a(any,any)",
            "a(list<any>)", "f()"};
        int[] due = {0, 0, 1, 2, 0, 1, 3, 4, 5, 1};
        int[] counts = new int[6];
        for (int i = 0; i < forms.length; i++) {
            Check.due("define of " + forms[i], Check.define(x, forms[i]), due[i]);
            counts[forms[i].charAt(0) - 'a']++;
            for (int operation = 0; operation < 6; operation++) {
                Check.due("FORMS", x.operation(operation, 0), counts[operation]);
            }
        }
        x.drop(0);
        Check.due("0 first again", Check.define(x, "a(any)"), 0);
        Check.due("of b it goes on", Check.define(x, "b(any,any)"), 2);
    }

    private static void whereItCannotGoOn() {
        Expect.stops("^(");
        Expect.stops("a^,");
        Expect.stops("a(^,");
        Expect.stops("a(long^;");
        Expect.stops("a(long)^;");
        Expect.stops("a(list^,");
        Expect.stops("a(list<long^,");
        Expect.stops("a([^[");
        Expect.stops("a([C^,");
        Expect.stops("a(enum^,");
        Expect.stops("a(enum(x^;");
        Expect.stops("a(enum(x,^;");
        Expect.stops("a(long?^?");
        Expect.stops("a(long.^,");
        Expect.stops("a(long...^,");
        Expect.stops("   a   (   long   ,  ^;");
        Expect.stops("a(optional long,long^)");
        Expect.stops(" ".repeat(96) + "a()^)");
        Expect.stops(" ".repeat(99) + "^x");
    }

    private static void endsTooSoon() {
        String[] starts = {"", "a", "a(", "a(optional", "a(optional long", "a(optional long,", "a(optional long,long",
            "a(optional long,long.", "a(optional long,long..", "a(optional long,long...", "a(long?", "a(long,", "a([",
            "a([C", "a([E]", "a(enum", "a(enum(", "a(enum(x", "a(enum(x,", "a(enum(x,y)", "a(enum(abcdefgh", "a(list",
            "a(list<", "a(list<long", "a(list<long?", "a(list<long>", "a(list<[E]", "a(any,any,any,any,any"};
        for (String start : starts) {
            Expect.bad(start, start.length());
            Expect.bad(start + " ", start.length() + 1);
            Expect.bad(start + " ".repeat(100 - start.length()), 100);
        }
    }

    private static void firstLetter() {
        Expect.stops("a(^word)");
        Expect.stops("a(^undefined,long)");
        Expect.stops("a(optional ^word)");
        Expect.stops("a(long,  ^word)");
        Expect.stops("a(list<^word>)");
        Expect.stops("a(list<^list<long>>)");
        Expect.stops("a([C]^double)");
        Expect.stops("a([E]^word)");
        Expect.stops("a(long ^word)");
        Expect.stops("a(long ^optional long)");
        Expect.stops("a(enum(x ^word))");
        Expect.stops("a(enum(x,word,^word))");
        Expect.stops("a(list ^long)");
        Expect.stops("a() ^word");
        Expect.stops("a ^word()");
    }

    private static void nineLetters() {
        Expect.good("a(enum(abcdefgh))");
        Expect.stops("a(enum(^abcdefghi))");
        Expect.stops("a(enum(^abcdefghi");
        Expect.stops("a(enum(^abcdefghij,x))");
        Expect.stops("a(enum(x,  ^abcdefghi))");
        Expect.stops("a(enum(abcdefgh,^abcdefghi))");
        Expect.stops("a(enum(abcdefgh^");
        Expect.stops("a(enum(^" + "a".repeat(93));
    }

    private static void brokenOff() {
        for (String name : new String[] {"boolean", "byte", "octet", "short", "long", "double", "string", "any", "enum",
                "list"}) {
            for (int length = 1; length < name.length(); length++) {
                Expect.stops("a(^" + name.substring(0, length));
                Expect.stops("a(long,optional ^" + name.substring(0, length));
                Expect.stops("a(list<^" + name.substring(0, length) + "  ");
            }
        }
        for (String name : new String[] {"boolean", "long", "string", "any", "enum", "list"}) {
            Expect.stops("a(" + name + "^");
        }
        Expect.stops("a([C]^b");
        Expect.stops("a([E]long^");
    }

    private static void same() {
        Expect.same(0, "a()", "a()");
        Expect.same(1, "a(long)", "a(short)");
        Expect.same(1, "a(any)", "a(string)");
        Expect.same(1, "a(long?)", "a(string?)");
        Expect.same(1, "a(long)", "a(string)", "a(boolean)", "a(list<any>)", "a(enum(x))");
        Expect.same(2, "a(long,long)", "a(long,string)", "a(string,string)");
        Expect.told("a(long)", "a(string)", "a(boolean)", "a(list<any>)");
        // Those that were dropped are there no more.
        IdlCaller x = Check.with("a(long)");
        Check.due("define", Check.define(x, "a(short)"), SAME);
        x.drop(0);
        Check.due("define", Check.define(x, "a(short)"), 0);
        // One that was refused is not there, nor one of another OPERATION.
        Check.due("define", Check.define(x, "a(short,long..."), SIGN);
        Check.due("define", Check.define(x, "a(short,long)"), 1);
        Check.due("define", Check.define(x, "b(short,long)"), 0);
    }

    private static void leastN() {
        Expect.same(0, "a(any...)", "a(optional any)");
        Expect.same(0, "a()", "a(optional long,string...)");
        Expect.same(1, "a(any,any...)", "a(optional any)");
        Expect.same(1, "a(any,optional any,optional any)", "a(any,any...)");
        Expect.same(2, "a(any,any,any...)", "a(any,any)");
        Expect.same(3, "a(any,any,any,optional any)", "a(any,any,any,any...)");
        Expect.same(4, "a(any,any,any,any,optional any)", "a(any,any,any,any)");
        Expect.same(5, "a(any,any,any,any,any)", "a(any...)");
        // With some n they can be told from one another, with a greater one not.
        Expect.same(2, "a(string,any)", "a(long)", "a(boolean,any)", "a(boolean,any)");
        Expect.same(3, "a(long,string)", "a(long,any,any)", "a(long,boolean,optional any)");
        Expect.same(2, "a(long,string)", "a(long,any,any)", "a(long,enum(x),optional any)");
        // Only from FORMS of which each can be called with another n.
        Expect.same(2, "a(any)", "a(any,any)", "a(any,any,any)", "a(any,any,optional any)");
    }

    private static IdlCaller withSix() {
        return Check.with("a()", "a(long)", "a(string)", "a(boolean)", "a(list<any>)", "a(any,any)");
    }

    private static void full() {
        IdlCaller x = Check.with("a()", "a(long)", "a(string)", "a(boolean)", "a(list<any>)");
        Check.due("the sixth", Check.define(x, "a(any,any)"), 5);
        Check.due("the seventh", Check.define(x, "a(any,any,any)"), FULL);
        Check.due("FORMS", x.operation(0, 0), 6);
        Check.due("most", x.operation(0, 1), 2);
        Check.due("again", Check.define(x, "a(any,any,any)"), FULL);
        Check.due("another OPERATION", Check.define(x, "b(any,any,any)"), 0);
        Check.due("drop", x.drop(0), 6);
        Check.due("there is room again", Check.define(x, "a(any,any,any)"), 0);
    }

    private static void fullPlace() {
        IdlCaller x = withSix();
        Check.due("SAME", Check.define(x, "a(short)"), SAME);
        Check.due("place of SAME", x.place(), 1);
        Check.due("FULL", Check.define(x, "a(any,any,any)"), FULL);
        Check.due("place of FULL", x.place(), NONE);
        Check.due("SIGN", Check.define(x, "a(any,any,any"), SIGN);
        Check.due("place of SIGN", x.place(), 13);
        Check.due("FULL", Check.define(x, "a(any,any,any)"), FULL);
        Check.due("place of FULL", x.place(), NONE);
        x.call(3, 7);
        Check.due("place of KIND", x.place(), 7);
        Check.due("FULL", x.define(), FULL);
        Check.due("place of FULL", x.place(), NONE);
    }

    private static void sameBeforeFull() {
        IdlCaller x = withSix();
        String[] sames = {"a()", "a(short)", "a(any)", "a(long,string)", "a(optional any,any...)", "a(any,any,any...)"};
        int[] due = {0, 1, 1, 2, 0, 2};
        for (int i = 0; i < sames.length; i++) {
            Check.due("define of " + sames[i], Check.define(x, sames[i]), SAME);
            Check.due("place of " + sames[i], x.place(), due[i]);
        }
        Check.due("SIGN goes before both", Check.define(x, "a(short"), SIGN);
        Check.due("place of SIGN", x.place(), 7);
        Check.due("what can be told", Check.define(x, "a(any,any,any)"), FULL);
    }

    // 5 and 6: drop and place.

    private static void drop() {
        String[] forms = {"()", "(long)", "(string)", "(boolean)", "(list<any>)", "(any,any)"};
        for (int operation = 0; operation < 6; operation++) {
            IdlCaller x = new IdlCaller();
            for (char letter = 'a'; letter <= 'f'; letter++) {
                Check.define(x, letter + "(any)");
            }
            x.drop(operation);
            for (int count = 0; count <= 6; count++) {
                for (int i = 0; i < count; i++) {
                    Check.due("define", Check.define(x, (char) ('a' + operation) + forms[i]), i);
                }
                Check.due("drop of " + count, x.drop(operation), count);
                Check.due("FORMS", x.operation(operation, 0), 0);
                Check.due("most", x.operation(operation, 1), NONE);
                Check.due("drop of none", x.drop(operation), 0);
            }
            for (int other = 0; other < 6; other++) {
                Check.due("FORMS of " + other, x.operation(other, 0), other == operation ? 0 : 1);
            }
        }
    }

    private static void dropThrows() {
        for (int operation = -20; operation <= 20; operation++) {
            Expect.argument(operation >= 0 && operation <= 5, operation, "drop", x -> { }, IdlCaller::drop);
        }
    }

    private static void placeOfLast() {
        IdlCaller x = Check.with("a(any,[E]octet)", "b(long)");
        for (int round = 0; round < 3; round++) {
            Check.due("SIGN", Check.define(x, "b(long"), SIGN);
            Check.due("its place", x.place(), 6);
            Check.due("SAME", Check.define(x, "b(short)"), SAME);
            Check.due("its place", x.place(), 1);
            Check.due("KIND", x.call(0, 2), KIND);
            Check.due("its SLOT", x.place(), 1);
            Check.due("KIND", x.call(0, 0), KIND);
            Check.due("its n", x.place(), 0);
            Check.due("KIND", x.call(2, 8), KIND);
            Check.due("its n", x.place(), 8);
            Check.due("SIGN", Check.define(x, ""), SIGN);
            Check.due("its place", x.place(), 0);
        }
        x.call(2, 8);
        everyOtherCall(x, 8);
    }

    /** The calls that are neither define nor call leave the place. */
    private static void everyOtherCall(IdlCaller x, int due) {
        x.type('a', 0, 0, 0, 0);
        x.erase();
        x.drop(4);
        x.simple(0, 4);
        x.number(1, 5);
        x.text(2, 'x', 0, 0);
        x.add(0, 1);
        x.operation(0, 5);
        x.kind(0);
        x.item(0, 0);
        x.whole(0, 0);
        x.real(0, 0);
        x.sign(0, 0, 0);
        Check.due("place", x.place(), due);
        Check.due("place again", x.place(), due);
        Check.refusesArgument("call", () -> x.call(6, 0));
        Check.refusesArgument("call", () -> x.call(0, 9));
        Check.due("place after what throws", x.place(), due);
    }

    private static void placeOfNone() {
        IdlCaller x = withSix();
        x.define();
        Check.due("a place", x.place(), 2);
        Check.due("define", Check.define(x, "b(any)"), 0);
        Check.due("place of a FORM", x.place(), NONE);
        everyOtherCall(x, NONE);
        Check.due("KIND", x.call(3, 4), KIND);
        Check.due("a place", x.place(), 4);
        Check.due("call", x.call(0, 0), 0);
        Check.due("place of a call", x.place(), NONE);
        everyOtherCall(x, NONE);
        Check.due("SIGN", x.define(), SIGN);
        Check.due("a place", x.place(), 0);
        Check.due("FULL", Check.define(x, "a(any,any,any)"), FULL);
        Check.due("place of FULL", x.place(), NONE);
    }

    private static void placeAtFirst() {
        IdlCaller another = new IdlCaller();
        Check.due("call of another object", another.call(0, 5), KIND);
        Check.due("place of another object", another.place(), 5);
        IdlCaller x = new IdlCaller();
        Check.due("place", x.place(), NONE);
        everyOtherCall(x, NONE);
    }

    // 7 to 10: SLOTS.

    private static void simple() {
        String[] due = {"undefined", "null", "false", "true", "[]"};
        for (int slot = 0; slot < 8; slot++) {
            for (int what = 0; what < 5; what++) {
                IdlCaller x = Check.with("a(any...)", "b(any,any,any,any,any)");
                Check.tell(x, slot, "x");
                x.simple(slot, what);
                Check.due("call", x.call(what == 0 && slot < 5 ? 1 : 0, 8), 0);
                Check.dueText("SLOT " + slot + ", what = " + what, Check.show(x, slot), what == 0 && slot >= 5
                        ? "missing" : due[what]);
                for (int from = 0; from < 5; from++) {
                    x.simple(slot, from);
                    x.simple(slot, what);
                }
                Check.due("call", x.call(what == 0 && slot < 5 ? 1 : 0, 8), 0);
                Check.dueText("SLOT " + slot + " again", Check.show(x, slot), what == 0 && slot >= 5 ? "missing"
                        : due[what]);
            }
        }
        IdlCaller x = Check.with("a(any)");
        Check.tellList(x, 0, 1.0, 2.0);
        x.simple(0, 4);
        Check.due("call", x.call(0, 1), 0);
        Check.due("without VALUES", x.whole(0, NONE), 0);
    }

    private static void simpleThrows() {
        for (int i = -20; i <= 20; i++) {
            Expect.argument(i >= 0 && i <= 7, i, "simple of", x -> { }, (x, slot) -> x.simple(slot, 4));
            Expect.argument(i >= 0 && i <= 4, i, "simple, what", x -> { }, (x, what) -> x.simple(7, what));
        }
    }

    private static void number() {
        IdlCaller x = Check.with("a(any...)");
        for (int slot = 0; slot < 8; slot++) {
            x.simple(slot, 4);
            x.number(slot, slot / 8.0 - 100);
        }
        Check.due("call", x.call(0, 8), 0);
        for (int slot = 0; slot < 8; slot++) {
            Check.due("a number", x.kind(slot), 4);
            Check.dueReal("its value", x.real(slot, NONE), slot / 8.0 - 100);
        }
        x.number(7, 5);
        x.number(7, 6);
        Check.due("call", x.call(0, 8), 0);
        Check.dueReal("the last one", x.real(7, NONE), 6);
    }

    private static void numberOfAnotherSlot() {
        for (int slot = -20; slot <= 20; slot++) {
            Expect.argument(slot >= 0 && slot <= 7, slot, "number of", x -> { }, (x, i) -> x.number(i, 5));
        }
    }

    private static void numberOutOfBounds() {
        double[] within = {2147483648.0, 2147483647.875, -2147483648.0, -2147483647.875, 0, -0.0};
        double[] beyond = {2147483648.125, -2147483648.125, Math.nextUp(2147483648.0), -Math.nextUp(2147483648.0),
            2147483649.0, -2147483649.0, 4294967296.0, 1e18, -1e18, 9.3e18, 1e300, -1e300, Double.MAX_VALUE,
            -Double.MAX_VALUE, Double.POSITIVE_INFINITY, Double.NEGATIVE_INFINITY, Double.NaN};
        tellsOnly(within, beyond);
    }

    private static void noEighths() {
        double[] eighths = {0.125, 0.25, 0.375, 0.5, 0.625, 0.75, 0.875, 1, -0.125, -0.875, 2147483647.125,
            -2147483647.625, 1000000.375};
        double[] others = {0.0625, 0.1, 0.2, 0.3, 0.9375, 1.0625, -0.0625, -1.1, 2147483647.9375, -2147483647.0625,
            0.124999, 0.125001, Math.nextUp(0.125), Math.nextDown(0.125), Math.nextUp(1000000.0), 1e-300,
            Double.MIN_VALUE, -Double.MIN_VALUE, 1.0 / 3, 1e-9};
        tellsOnly(eighths, others);
    }

    private static void tellsOnly(double[] good, double[] bad) {
        for (int slot : new int[] {0, 7}) {
            IdlCaller x = Check.with("a(any...)");
            for (double value : good) {
                x.number(slot, value);
                Check.due("call", x.call(0, 8), 0);
                Check.dueReal("number", x.real(slot, NONE), value);
            }
            double last = good[good.length - 1];
            for (double value : bad) {
                Check.refusesArgument("number " + value, () -> x.number(slot, value));
                Check.due("call", x.call(0, 8), 0);
                Check.due("still a number", x.kind(slot), 4);
                Check.dueReal("as before", x.real(slot, NONE), last);
            }
        }
    }

    private static void text() {
        IdlCaller x = Check.with("a(any...)");
        for (int slot = 0; slot < 8; slot++) {
            x.simple(slot, 4);
            Check.due("text", x.text(slot, 0x61620063, 0x00640000, 0x6500ff01), 7);
        }
        Check.due("call", x.call(0, 8), 0);
        for (int slot = 0; slot < 8; slot++) {
            Check.dueText("text", Check.show(x, slot), "'abcde\u00ff\u0001'");
        }
        Check.due("four in each", x.text(0, 0x61626364, 0x65666768, 0x696a6b6c), 12);
        Check.due("call", x.call(0, 1), 0);
        Check.dueText("the highest byte first", Check.show(x, 0), "'abcdefghijkl'");
        Check.due("text", x.text(0, 0, 0, 'z'), 1);
        Check.due("call", x.call(0, 1), 0);
        Check.dueText("a shorter one", Check.show(x, 0), "'z'");
        Check.due("text", x.text(0, 0, 0, 0), 0);
        Check.due("call", x.call(0, 1), 0);
        Check.dueText("one without characters", Check.show(x, 0), "''");
    }

    private static void howManyOfText() {
        IdlCaller x = new IdlCaller();
        Check.due("text of nothing", x.text(3, 0, 0, 0), 0);
        Check.due("text of eleven", x.text(3, -1, -1, 0xffffff), 11);
        Check.due("text of twelve", x.text(3, -1, -1, -1), 12);
        int[] fill = {0, 0x1, 0xff00, 0x800000, 0x20000000, 0x100ff, -1, 0x00ffff00, 0x7f7f7f00};
        int[] count = {0, 1, 1, 1, 1, 2, 4, 2, 3};
        for (int a = 0; a < fill.length; a++) {
            for (int b = 0; b < fill.length; b++) {
                int c = (a + b) % fill.length;
                Check.due("text", x.text(3, fill[a], fill[b], fill[c]), count[a] + count[b] + count[c]);
            }
        }
    }

    private static void textThrows() {
        for (int slot = -20; slot <= 20; slot++) {
            Expect.argument(slot >= 0 && slot <= 7, slot, "text of", x -> { }, (x, i) -> x.text(i, 'x', 0, 0));
            Expect.argument(slot >= 0 && slot <= 7, slot, "text of", x -> { }, (x, i) -> x.text(i, 0, 0, 0));
        }
    }

    private static void add() {
        for (int list = 0; list < 8; list++) {
            IdlCaller x = Check.with("a(any...)");
            int from = (list + 3) % 8;
            x.simple(list, 4);
            String due = "";
            Object[] values = {2.5, UNDEFINED, "x", null, true};
            String[] shown = {"d2.5", "undefined", "'x'", "null", "true"};
            for (int i = 0; i < 5; i++) {
                Check.tellAny(x, from, values[i]);
                Check.due("add", x.add(list, from), i + 1);
                due += (i > 0 ? " " : "") + shown[i];
                Check.due("call", x.call(0, 8), 0);
                Check.dueText("behind the others", Check.show(x, list), "[" + due + "]");
                Check.dueText("the SLOT stays", Check.show(x, from), shown[i].equals("undefined") ? "missing"
                        : shown[i]);
            }
            Check.tell(x, from, "changed");
            Check.due("call", x.call(0, 8), 0);
            Check.dueText("the LIST stays", Check.show(x, list), "[" + due + "]");
        }
    }

    private static void howManyOfList() {
        IdlCaller x = new IdlCaller();
        for (int round = 0; round < 3; round++) {
            x.simple(2, 4);
            x.simple(3, 4);
            for (int size = 1; size <= 5; size++) {
                Check.due("add", x.add(2, 5), size);
                Check.due("add to another one", x.add(3, 5), size);
            }
        }
    }

    private static void addThrows() {
        Twins.Calls before = x -> {
            x.simple(0, 4);
            x.simple(1, 3);
        };
        for (int i = -20; i <= 20; i++) {
            if (i < 0 || i > 7) {
                Expect.argument(false, i, "add from", before, (x, slot) -> x.add(0, slot));
                Expect.argument(false, i, "add to", before, (x, slot) -> x.add(slot, 1));
                Expect.argument(false, i, "add to and from", before, (x, slot) -> x.add(slot, slot));
                // It goes before IllegalState.
                Expect.argument(false, i, "add to what is no LIST, from", before, (x, slot) -> x.add(1, slot));
                Expect.argument(false, i, "add of a LIST to", before, (x, slot) -> x.add(slot, 0));
            }
        }
        Expect.argument(true, 7, "add from", before, (x, slot) -> x.add(0, slot));
        Expect.argument(true, 0, "add to", before, (x, slot) -> x.add(slot, 1));
        Expect.argument(true, 7, "add to", x -> x.simple(7, 4), (x, slot) -> x.add(slot, 0));
    }

    private static void addToNoList() {
        for (Object value : new Object[] {UNDEFINED, null, false, true, 0.0, "", "[]"}) {
            IdlCaller x = Check.with("a(any)");
            Check.tellAny(x, 0, value);
            Check.due("call", x.call(0, 1), 0);
            String before = Check.show(x, 0);
            Check.refusesState("add to " + before, () -> x.add(0, 1));
            Check.refusesState("add of itself to " + before, () -> x.add(0, 0));
            Check.due("call", x.call(0, 1), 0);
            Check.dueText("it stays", Check.show(x, 0), before);
        }
        IdlCaller x = new IdlCaller();
        x.simple(0, 4);
        Check.due("add to a LIST", x.add(0, 1), 1);
        x.number(0, 1);
        Check.refusesState("add to what was a LIST", () -> x.add(0, 1));
    }

    private static void addToFive() {
        IdlCaller x = Check.with("a(any)");
        Check.tellList(x, 0, 1.0, 2.0, 3.0, 4.0);
        Check.tell(x, 1, "x");
        Check.due("the fifth", x.add(0, 1), 5);
        for (int i = 0; i < 3; i++) {
            Check.refusesState("a sixth", () -> x.add(0, 1));
        }
        Check.due("call", x.call(0, 1), 0);
        Check.dueText("it has five", Check.show(x, 0), "[d1.0 d2.0 d3.0 d4.0 'x']");
        x.simple(0, 4);
        Check.due("the first", x.add(0, 1), 1);
    }

    private static void addOfList() {
        IdlCaller x = Check.with("a(any...)");
        x.simple(0, 4);
        Check.tellList(x, 1, 1.0);
        Check.refusesState("a LIST with one", () -> x.add(0, 1));
        Check.refusesState("a LIST without VALUES", () -> x.add(1, 0));
        Check.refusesState("itself", () -> x.add(1, 1));
        Check.due("call", x.call(0, 2), 0);
        Check.dueText("they stay", Check.showAll(x), "[]; [d1.0]");
        x.simple(1, 3);
        Check.due("what was a LIST", x.add(0, 1), 1);
    }
}
