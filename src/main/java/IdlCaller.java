/**
 * Operations of an interface language with several FORMS each, and calls of them with values of a
 * script. The words in capitals are those of the document.
 */
public final class IdlCaller {
    public static final int NONE = -1;
    public static final int SIGN = -2;
    public static final int SAME = -3;
    public static final int FULL = -4;
    public static final int KIND = -5;

    private static final int OPERATIONS = 6;
    private static final int FORMS = 6;
    private static final int ARGUMENTS = 5;
    private static final int WORDS = 5;
    private static final int WORD_LETTERS = 8;
    private static final int SLOTS = 8;
    private static final int ITEMS = 5;
    private static final int LINE_ROOM = 100;
    /** The longest TEXT of a VALUE that is no LIST is that of -2147483647.875. */
    private static final int ITEM_ROOM = 16;
    /** Five of these with four commas between. */
    private static final int TEXT_ROOM = 84;
    private static final long TOLD_BOUND = 2147483648L;

    // What a thing is, in the numbers of promise 13. VALUES use those from A_BOOLEAN on.
    private static final int MISSING = 0;
    private static final int NULL = 1;
    private static final int A_BOOLEAN = 2;
    private static final int A_WHOLE = 3;
    private static final int A_DOUBLE = 4;
    private static final int A_TEXT = 5;
    private static final int A_LIST = 6;
    private static final int UNDEFINED = 7;
    private static final int PLAIN_NULL = 8;

    // The sorts by which TYPES are DISTINCT.
    private static final int NO_SORT = 0;
    private static final int BOOLEANS = 1;
    private static final int NUMBERS = 2;
    private static final int STRINGS = 3;
    private static final int LISTS = 4;

    // How a NUMBER comes into the bounds of its TYPE.
    private static final int WRAP = 0;
    private static final int CLAMP = 1;
    private static final int ENFORCE = 2;

    private static final char BLANK = ' ';
    /** No character of a text or of THE LINE is this one. */
    private static final char NO_SIGN = 0;

    private static final Name[] NAMES = Name.values();

    private final Text line = new Text(LINE_ROOM);
    private final Reader reader = new Reader();
    private final Operation[] operations = new Operation[OPERATIONS];
    private final Thing[] slots = rowOfThings();
    private final Numeral numeral = new Numeral();
    private Thing[] converted = rowOfThings();
    /** A call converts into this row, so that a refused one leaves the other row as it was. */
    private Thing[] spare = rowOfThings();
    private int places = 0;
    private int lastPlace = NONE;

    public IdlCaller() {
        for (int i = 0; i < operations.length; i++) {
            operations[i] = new Operation();
        }
    }

    public int type(int a, int b, int c, int d, int e) throws IllegalStateException {
        int more = Text.signsIn(a) + Text.signsIn(b) + Text.signsIn(c) + Text.signsIn(d) + Text.signsIn(e);
        if (line.length + more > LINE_ROOM) {
            throw new IllegalStateException("THE LINE would have more than 100 characters");
        }
        line.appendSigns(a);
        line.appendSigns(b);
        line.appendSigns(c);
        line.appendSigns(d);
        line.appendSigns(e);
        return line.length;
    }

    public int erase() {
        int had = line.length;
        line.length = 0;
        return had;
    }

    public int define() {
        Form form = reader.readForm(line);
        Operation defined = form == null ? null : operationAt(form.operation);
        if (defined == null) {
            lastPlace = reader.fault;
            return SIGN;
        }
        lastPlace = defined.clashOf(form);
        if (lastPlace != NONE) {
            return SAME;
        }
        return defined.append(form);
    }

    public int drop(int operation) throws IllegalArgumentException {
        Operation dropped = operationAt(operation);
        if (dropped == null) {
            throw new IllegalArgumentException("the OPERATION is not 0 .. 5");
        }
        int had = dropped.count;
        dropped.clear();
        return had;
    }

    public int place() {
        return lastPlace;
    }

    public void simple(int slot, int what) throws IllegalArgumentException {
        Thing value = thingAt(slots, slot);
        if (value == null || what < 0 || what > 4) {
            throw new IllegalArgumentException("the SLOT is not 0 .. 7, or what is not 0 .. 4");
        }
        if (what == 0) {
            value.becomeNamed(UNDEFINED, "undefined");
        } else if (what == 1) {
            value.becomeNamed(PLAIN_NULL, "null");
            value.knowNumber(true, 0);
        } else if (what < 4) {
            value.becomeWhole(A_BOOLEAN, what - 2);
            value.text.appendLetters(what == 2 ? "false" : "true");
            value.knowNumber(true, what - 2);
        } else {
            value.become(A_LIST);
            findNumber(value);
        }
    }

    public void number(int slot, double value) throws IllegalArgumentException {
        Thing told = thingAt(slots, slot);
        if (told == null || !canBeTold(value)) {
            throw new IllegalArgumentException("the SLOT is not 0 .. 7, or the number is none that can be told");
        }
        told.becomeDouble(value);
        told.text.appendNumber(value);
    }

    public int text(int slot, int a, int b, int c) throws IllegalArgumentException {
        Thing value = thingAt(slots, slot);
        if (value == null) {
            throw new IllegalArgumentException("the SLOT is not 0 .. 7");
        }
        value.become(A_TEXT);
        value.text.appendSigns(a);
        value.text.appendSigns(b);
        value.text.appendSigns(c);
        findNumber(value);
        return value.text.length;
    }

    public int add(int list, int from) throws IllegalArgumentException, IllegalStateException {
        Thing longer = thingAt(slots, list);
        Thing value = thingAt(slots, from);
        if (longer == null || value == null) {
            throw new IllegalArgumentException("a SLOT is not 0 .. 7");
        }
        if (longer.kind != A_LIST || value.kind == A_LIST || longer.size >= ITEMS) {
            throw new IllegalStateException("no LIST to add to, or a full one, or a LIST to be added");
        }
        longer.appendItem(value);
        findNumber(longer);
        return longer.size;
    }

    public int call(int operation, int n) throws IllegalArgumentException {
        Operation called = operationAt(operation);
        if (called == null || n < 0 || n > SLOTS) {
            throw new IllegalArgumentException("the OPERATION is not 0 .. 5, or n is not 0 .. 8");
        }
        int used = Math.min(n, called.mostArguments());
        called.gather(used, null);
        Form form = called.ableAt(0);
        if (form == null) {
            return refuseAt(n);
        }
        // Before the DECIDING one all these FORMS are the same, so any of them converts for all.
        int deciding = called.decidingFor(used);
        int done = Math.max(deciding, 0);
        int wrong = convertSlots(form, 0, done);
        if (wrong != NONE) {
            return refuseAt(wrong);
        }
        if (deciding != NONE) {
            form = called.choose(deciding, thingAt(slots, deciding));
        }
        if (form == null) {
            return refuseAt(deciding);
        }
        wrong = convertSlots(form, done, used);
        return wrong != NONE ? refuseAt(wrong) : finish(form, used);
    }

    public int operation(int operation, int what) throws IllegalArgumentException {
        Operation asked = operationAt(operation);
        if (asked == null || what < 0 || what > 3 + SLOTS) {
            throw new IllegalArgumentException("the OPERATION is not 0 .. 5, or what is not 0 .. 11");
        }
        if (what == 0) {
            return asked.count;
        }
        if (what == 1) {
            return asked.mostArguments();
        }
        if (what == 2) {
            return asked.leastArguments();
        }
        asked.gather(what - 3, null);
        return asked.decidingFor(what - 3);
    }

    public int kind(int k) {
        Thing thing = partAt(k, NONE);
        return thing == null ? NONE : thing.kind;
    }

    public int item(int k, int i) {
        Thing thing = i < 0 ? null : partAt(k, i);
        return thing == null ? NONE : thing.kind;
    }

    public long whole(int k, int i) {
        Thing thing = partAt(k, i);
        if (thing == null) {
            return 0;
        }
        if (thing.kind == A_BOOLEAN || thing.kind == A_WHOLE) {
            return thing.whole;
        }
        if (thing.kind == A_TEXT) {
            return thing.text.length;
        }
        return thing.kind == A_LIST ? thing.size : 0;
    }

    public double real(int k, int i) {
        Thing thing = partAt(k, i);
        return thing == null || thing.kind != A_DOUBLE ? 0 : thing.real;
    }

    public char sign(int k, int i, int c) {
        Thing thing = partAt(k, i);
        if (thing == null || thing.kind != A_TEXT) {
            return BLANK;
        }
        char sign = thing.text.at(c);
        return sign == NO_SIGN ? BLANK : sign;
    }

    private Operation operationAt(int i) {
        return i >= 0 && i < operations.length ? operations[i] : null;
    }

    private static Thing[] rowOfThings() {
        Thing[] row = new Thing[SLOTS];
        for (int i = 0; i < row.length; i++) {
            row[i] = Thing.withItems();
        }
        return row;
    }

    private static Thing thingAt(Thing[] row, int i) {
        return row != null && i >= 0 && i < row.length ? row[i] : null;
    }

    /** Place k of what was converted last, or item i of the list there; null if there is none. */
    private Thing partAt(int k, int i) {
        Thing thing = k < places ? thingAt(converted, k) : null;
        return thing == null || i == NONE ? thing : thing.itemAt(i);
    }

    /** NaN fails the first two comparisons. */
    private static boolean canBeTold(double value) {
        if (value >= -TOLD_BOUND && value <= TOLD_BOUND) {
            double eighths = value * 8;
            return (double) (long) eighths == eighths;
        }
        return false;
    }

    /** A text and a LIST have the NUMBER that their TEXT tells. */
    private void findNumber(Thing value) {
        boolean has = numeral.read(value.text);
        value.knowNumber(has, numeral.found);
    }

    private int refuseAt(int slot) {
        lastPlace = slot;
        return KIND;
    }

    /** The first SLOT from .. to - 1 whose VALUE cannot be converted for the FORM; NONE if all were. */
    private int convertSlots(Form form, int from, int to) {
        for (int i = from; i < to; i++) {
            Argument argument = form.argumentAt(i);
            Thing value = thingAt(slots, i);
            Thing into = thingAt(spare, i);
            if (argument == null || value == null || into == null || !Converter.convert(argument, value, into)) {
                return i;
            }
        }
        return NONE;
    }

    private int finish(Form form, int used) {
        for (int i = used; i < form.count; i++) {
            Thing behind = thingAt(spare, i);
            if (behind != null) {
                behind.become(MISSING);
            }
        }
        Thing[] before = converted;
        converted = spare;
        spare = before;
        places = Math.max(used, form.count);
        lastPlace = NONE;
        return form.number;
    }

    /** A row of characters that is made once and filled again and again. */
    private static final class Text {
        final char[] signs;
        int length = 0;

        Text(int room) {
            signs = new char[Math.max(room, 0)];
        }

        static int signsIn(int four) {
            int signs = 0;
            for (int shift = 24; shift >= 0; shift -= 8) {
                if ((four >>> shift & 255) != 0) {
                    signs++;
                }
            }
            return signs;
        }

        char at(int i) {
            return i >= 0 && i < length && i < signs.length ? signs[i] : NO_SIGN;
        }

        void append(char sign) {
            if (length >= 0 && length < signs.length) {
                signs[length] = sign;
                length++;
            }
        }

        void appendSigns(int four) {
            for (int shift = 24; shift >= 0; shift -= 8) {
                int sign = four >>> shift & 255;
                if (sign != 0) {
                    append((char) sign);
                }
            }
        }

        void copy(Text other) {
            length = 0;
            for (int i = 0; i < other.length && i < other.signs.length && i < signs.length; i++) {
                signs[i] = other.signs[i];
                length++;
            }
        }

        void appendLetters(String letters) {
            for (int i = 0; i < letters.length(); i++) {
                append(letters.charAt(i));
            }
        }

        /** The TEXT of a number that can be told: its eighths make up to three digits of fraction. */
        void appendNumber(double value) {
            if (value < 0) {
                append('-');
            }
            long eighths = (long) ((value < 0 ? -value : value) * 8);
            appendDigits(eighths >> 3);
            long thousandths = (eighths & 7) * 125;
            if (thousandths != 0) {
                append('.');
            }
            for (int i = 0; i < 3 && thousandths != 0; i++) {
                append((char) ('0' + thousandths / 100));
                thousandths = thousandths % 100 * 10;
            }
        }

        private void appendDigits(long whole) {
            boolean begun = false;
            for (long power = 1000000000L; power > 0; power /= 10) {
                long digit = whole / power % 10;
                begun = begun || digit != 0 || power == 1;
                if (begun) {
                    append((char) ('0' + digit));
                }
            }
        }

        /** The code of this text as a WORD, 0 if it is none. */
        long wordCode() {
            if (length > WORD_LETTERS) {
                return 0;
            }
            long code = 0;
            for (int i = 0; i < length; i++) {
                char letter = at(i);
                if (!isLetter(letter)) {
                    return 0;
                }
                code = withLetter(code, letter);
            }
            return code;
        }

        static boolean isLetter(char sign) {
            return sign >= 'a' && sign <= 'z';
        }

        /** Five bits a letter: eight letters have room in a long, and different WORDS have different codes. */
        static long withLetter(long code, char letter) {
            return code * 32 + (letter - 'a' + 1);
        }

        static long codeOf(String letters) {
            long code = 0;
            for (int i = 0; i < letters.length(); i++) {
                code = withLetter(code, letters.charAt(i));
            }
            return code;
        }
    }

    /** A VALUE, or what one was converted to. A VALUE keeps its TEXT and its NUMBER from the time it is told. */
    private static final class Thing {
        int kind = UNDEFINED;
        /** Of a boolean or a whole number. */
        long whole = 0;
        /** Of a double, and of a VALUE its NUMBER, if it has one. */
        double real = 0;
        boolean hasNumber = false;
        /** Of a text, and of a VALUE its TEXT. */
        final Text text;
        int size = 0;
        private final Thing[] items;

        private Thing(int room, Thing[] items) {
            this.text = new Text(room);
            this.items = items;
        }

        /** An undefined one. */
        static Thing withItems() {
            Thing[] none = new Thing[0];
            Thing[] items = new Thing[ITEMS];
            for (int i = 0; i < items.length; i++) {
                items[i] = new Thing(ITEM_ROOM, none);
            }
            Thing thing = new Thing(TEXT_ROOM, items);
            thing.becomeNamed(UNDEFINED, "undefined");
            return thing;
        }

        Thing itemAt(int i) {
            return i < size ? thingAt(items, i) : null;
        }

        /** One more item, to be filled; null if there is no room. */
        Thing nextItem() {
            Thing next = thingAt(items, size);
            if (next != null) {
                size++;
            }
            return next;
        }

        /** Makes a LIST longer by a VALUE, and its TEXT by that of the VALUE. */
        void appendItem(Thing value) {
            Thing next = nextItem();
            if (next == null) {
                return;
            }
            next.copyPlain(value);
            if (size > 1) {
                text.append(',');
            }
            for (int i = 0; i < value.text.length && !value.isUndefinedOrNull(); i++) {
                text.append(value.text.at(i));
            }
        }

        void become(int what) {
            kind = what;
            whole = 0;
            real = 0;
            hasNumber = false;
            size = 0;
            text.length = 0;
        }

        void knowNumber(boolean has, double number) {
            hasNumber = has;
            real = number;
        }

        void becomeNamed(int what, String letters) {
            become(what);
            text.appendLetters(letters);
        }

        void becomeWhole(int what, long number) {
            become(what);
            whole = number;
        }

        void becomeDouble(double number) {
            become(A_DOUBLE);
            knowNumber(true, number);
        }

        void becomeText(Text other) {
            become(A_TEXT);
            text.copy(other);
        }

        /** All but the items. */
        void copyPlain(Thing other) {
            become(other.kind);
            whole = other.whole;
            knowNumber(other.hasNumber, other.real);
            text.copy(other.text);
        }

        void copyAll(Thing other) {
            copyPlain(other);
            for (int i = 0; i < other.size; i++) {
                Thing from = other.itemAt(i);
                Thing next = nextItem();
                if (from != null && next != null) {
                    next.copyPlain(from);
                }
            }
        }

        boolean isUndefinedOrNull() {
            return kind == UNDEFINED || kind == PLAIN_NULL;
        }

        /** What a VALUE is as a boolean. */
        boolean isTrue() {
            if (kind == A_BOOLEAN || kind == A_DOUBLE) {
                return real != 0;
            }
            return kind == A_LIST || kind == A_TEXT && text.length > 0;
        }
    }

    /** The names of TYPES, their sorts, and the bounds of those that have some. */
    private enum Name {
        BOOLEAN("boolean", BOOLEANS, 0, 0),
        BYTE("byte", NUMBERS, -128, 127),
        OCTET("octet", NUMBERS, 0, 255),
        SHORT("short", NUMBERS, -32768, 32767),
        LONG("long", NUMBERS, -2147483648L, 2147483647L),
        DOUBLE("double", NUMBERS, 0, 0),
        STRING("string", STRINGS, 0, 0),
        ANY("any", NO_SORT, 0, 0),
        ENUM("enum", STRINGS, 0, 0),
        LIST("list", LISTS, 0, 0);

        final String letters;
        final int sort;
        final long least;
        final long most;

        Name(String letters, int sort, long least, long most) {
            this.letters = letters;
            this.sort = sort;
            this.least = least;
            this.most = most;
        }

        boolean hasBounds() {
            return least < most;
        }
    }

    private static final class Type {
        final Name name;
        final int mode;
        final boolean nullable;
        /** Codes of an enum's WORDS, null of another TYPE. */
        private final long[] words;
        /** The TYPE of a list's VALUES, null of another TYPE. */
        final Type element;

        Type(Name name, int mode, boolean nullable, long[] words, Type element) {
            this.name = name;
            this.mode = mode;
            this.nullable = nullable;
            this.words = words;
            this.element = element;
        }

        boolean isDistinctFrom(Type other) {
            if (name.sort == NO_SORT || other.name.sort == NO_SORT || nullable && other.nullable) {
                return false;
            }
            return name.sort != other.name.sort;
        }

        boolean isSameAs(Type other) {
            if (element == null || other.element == null) {
                return element == null && other.element == null && isSameButElement(other);
            }
            return isSameButElement(other) && element.isSameButElement(other.element);
        }

        private boolean isSameButElement(Type other) {
            return name == other.name && mode == other.mode && nullable == other.nullable && hasSameWords(other);
        }

        private boolean hasSameWords(Type other) {
            if (words == null || other.words == null) {
                return words == null && other.words == null;
            }
            if (words.length != other.words.length) {
                return false;
            }
            for (int i = 0; i < words.length && i < other.words.length; i++) {
                if (words[i] != other.words[i]) {
                    return false;
                }
            }
            return true;
        }

        boolean hasWord(long code) {
            if (words == null || code == 0) {
                return false;
            }
            for (long word : words) {
                if (word == code) {
                    return true;
                }
            }
            return false;
        }
    }

    private static final class Argument {
        final Type type;
        private final boolean optional;
        final boolean variadic;

        Argument(Type type, boolean optional, boolean variadic) {
            this.type = type;
            this.optional = optional;
            this.variadic = variadic;
        }

        boolean canBeMissing() {
            return optional || variadic;
        }

        boolean isSameAs(Argument other) {
            return optional == other.optional && variadic == other.variadic && type.isSameAs(other.type);
        }
    }

    private static final class Form {
        final int operation;
        int number = NONE;
        private final Argument[] arguments = new Argument[ARGUMENTS];
        int count = 0;
        /** Whether the last ARGUMENT is. */
        private boolean variadic = false;

        Form(int operation) {
            this.operation = operation;
        }

        void append(Argument argument) {
            if (count >= 0 && count < arguments.length) {
                arguments[count] = argument;
                count++;
                variadic = argument.variadic;
            }
        }

        /** The ARGUMENT that VALUE i goes to, a VARIADIC one again and again; null if there is none. */
        Argument argumentAt(int i) {
            int told = variadic ? Math.min(i, count - 1) : i;
            return told >= 0 && told < count && told < arguments.length ? arguments[told] : null;
        }

        int leastArguments() {
            for (int n = count; n > 0; n--) {
                Argument last = argumentAt(n - 1);
                if (last == null || !last.canBeMissing()) {
                    return n;
                }
            }
            return 0;
        }

        int mostArguments() {
            return variadic ? SLOTS : count;
        }

        boolean canBeCalledWith(int n) {
            return n >= leastArguments() && n <= mostArguments();
        }
    }

    private static final class Operation {
        private final Form[] forms = new Form[FORMS];
        int count = 0;
        /** The FORMS that gather found last: those of the OPERATION and perhaps a new one. */
        private final Form[] able = new Form[FORMS + 1];
        private int ables = 0;

        void clear() {
            count = 0;
        }

        /** The number that the FORM gets; FULL if there is no room. */
        int append(Form form) {
            if (count < 0 || count >= forms.length) {
                return FULL;
            }
            form.number = count;
            forms[count] = form;
            count++;
            return form.number;
        }

        private Form formAt(int i) {
            return i >= 0 && i < count && i < forms.length ? forms[i] : null;
        }

        Form ableAt(int i) {
            return i >= 0 && i < ables && i < able.length ? able[i] : null;
        }

        int mostArguments() {
            int most = NONE;
            for (int i = 0; i < count; i++) {
                Form form = formAt(i);
                if (form != null) {
                    most = Math.max(most, form.mostArguments());
                }
            }
            return most;
        }

        int leastArguments() {
            int least = NONE;
            for (int i = 0; i < count; i++) {
                Form form = formAt(i);
                if (form != null) {
                    int own = form.leastArguments();
                    least = least == NONE ? own : Math.min(least, own);
                }
            }
            return least;
        }

        /** Finds the FORMS that can be called with n, the new one (or null) behind the others. */
        void gather(int n, Form fresh) {
            ables = 0;
            for (int i = 0; i < count; i++) {
                gatherOne(n, formAt(i));
            }
            gatherOne(n, fresh);
        }

        private void gatherOne(int n, Form form) {
            if (form != null && form.canBeCalledWith(n) && ables >= 0 && ables < able.length) {
                able[ables] = form;
                ables++;
            }
        }

        /** The DECIDING one of the FORMS gathered for n; NONE if there is none. */
        int decidingFor(int n) {
            if (ables < 2) {
                return NONE;
            }
            for (int i = 0; i < n; i++) {
                if (areDistinctAt(i)) {
                    return i;
                }
                if (!areSameAt(i)) {
                    return NONE;
                }
            }
            return NONE;
        }

        private boolean areDistinctAt(int i) {
            for (int one = 0; one < ables; one++) {
                for (int other = 0; other < one; other++) {
                    Type type = typeAt(one, i);
                    Type otherType = typeAt(other, i);
                    if (type == null || otherType == null || !type.isDistinctFrom(otherType)) {
                        return false;
                    }
                }
            }
            return true;
        }

        private boolean areSameAt(int i) {
            Argument first = argumentAt(0, i);
            for (int one = 1; one < ables; one++) {
                Argument argument = argumentAt(one, i);
                if (first == null || argument == null || !argument.isSameAs(first)) {
                    return false;
                }
            }
            return true;
        }

        private Argument argumentAt(int gathered, int i) {
            Form form = ableAt(gathered);
            return form == null ? null : form.argumentAt(i);
        }

        private Type typeAt(int gathered, int i) {
            Argument argument = argumentAt(gathered, i);
            return argument == null ? null : argument.type;
        }

        /** The least n with which the new FORM could not be told from the others; NONE if there is none. */
        int clashOf(Form fresh) {
            for (int n = 0; n <= SLOTS; n++) {
                if (fresh.canBeCalledWith(n)) {
                    gather(n, fresh);
                    if (ables > 1 && decidingFor(n) == NONE) {
                        return n;
                    }
                }
            }
            return NONE;
        }

        /** The FORM of those gathered that the DECIDING one's VALUE chooses; null if it chooses none. */
        Form choose(int deciding, Thing value) {
            if (value == null) {
                return null;
            }
            Form found = value.kind == UNDEFINED ? firstThatMayMiss(deciding) : null;
            if (found == null && value.isUndefinedOrNull()) {
                found = firstNullable(deciding);
            }
            if (found == null) {
                found = firstOfSort(deciding, sortOf(value));
            }
            if (found == null) {
                found = firstOfSort(deciding, STRINGS);
            }
            if (found == null) {
                found = firstOfSort(deciding, NUMBERS);
            }
            return found != null ? found : firstOfSort(deciding, BOOLEANS);
        }

        /** The sort that a VALUE asks for before all others. */
        private static int sortOf(Thing value) {
            if (value.kind == A_LIST) {
                return LISTS;
            }
            if (value.kind == A_BOOLEAN) {
                return BOOLEANS;
            }
            return value.kind == A_DOUBLE ? NUMBERS : STRINGS;
        }

        private Form firstThatMayMiss(int i) {
            for (int one = 0; one < ables; one++) {
                Argument argument = argumentAt(one, i);
                if (argument != null && argument.canBeMissing()) {
                    return ableAt(one);
                }
            }
            return null;
        }

        private Form firstNullable(int i) {
            for (int one = 0; one < ables; one++) {
                Type type = typeAt(one, i);
                if (type != null && type.nullable) {
                    return ableAt(one);
                }
            }
            return null;
        }

        private Form firstOfSort(int i, int sort) {
            for (int one = 0; one < ables; one++) {
                Type type = typeAt(one, i);
                if (type != null && type.name.sort == sort) {
                    return ableAt(one);
                }
            }
            return null;
        }
    }

    /** Reads THE LINE as a FORM. Blanks are left out first; where a sign stood is kept beside it. */
    private static final class Reader {
        private final char[] signs = new char[LINE_ROOM];
        private final int[] stood = new int[LINE_ROOM];
        private int count = 0;
        private int end = 0;
        private int at = 0;
        /** What the name read last has before it: WRAP for nothing. */
        private int mode = WRAP;
        /** Where THE LINE cannot go on. */
        int fault = NONE;

        /** The FORM, or null, and fault tells where. */
        Form readForm(Text line) {
            load(line);
            int letter = signAt(0) - 'a';
            if (letter < 0 || letter >= OPERATIONS) {
                failAt(0);
                return null;
            }
            Form form = new Form(letter);
            at = 1;
            if (!need('(')) {
                return null;
            }
            boolean empty = take(')');
            boolean behindOptional = false;
            for (int i = 1; i <= ARGUMENTS && !empty; i++) {
                Argument argument = readArgument(behindOptional);
                if (argument == null) {
                    return null;
                }
                form.append(argument);
                behindOptional = argument.canBeMissing();
                if (argument.variadic || i == ARGUMENTS || !take(',')) {
                    break;
                }
            }
            if (!empty && !need(')')) {
                return null;
            }
            return at == count || failAt(at) ? form : null;
        }

        private void load(Text line) {
            count = 0;
            for (int i = 0; i < line.length; i++) {
                char sign = line.at(i);
                if (sign != BLANK && count >= 0 && count < signs.length && count < stood.length) {
                    signs[count] = sign;
                    stood[count] = i;
                    count++;
                }
            }
            end = line.length;
            fault = NONE;
        }

        private char signAt(int i) {
            return i >= 0 && i < count && i < signs.length ? signs[i] : NO_SIGN;
        }

        private int stoodAt(int i) {
            return i >= 0 && i < count && i < stood.length ? stood[i] : end;
        }

        /** Is always false, for its callers to hand on. */
        private boolean failAt(int i) {
            fault = stoodAt(i);
            return false;
        }

        private boolean take(char sign) {
            if (signAt(at) != sign) {
                return false;
            }
            at++;
            return true;
        }

        private boolean need(char sign) {
            return take(sign) || failAt(at);
        }

        /** The code of the letters that stand together here, 0 if they are no WORD; goes behind them. */
        private long readWord() {
            int start = at;
            int first = stoodAt(at);
            long code = 0;
            while (at < count && stoodAt(at) - first == at - start && Text.isLetter(signAt(at))) {
                code = Text.withLetter(code, signAt(at));
                at++;
            }
            return at - start > WORD_LETTERS ? 0 : code;
        }

        private Argument readArgument(boolean behindOptional) {
            int start = at;
            boolean optional = readWord() == Text.codeOf("optional");
            if (!optional) {
                at = start;
            }
            Type type = readType();
            if (type == null) {
                return null;
            }
            boolean variadic = !optional && take('.');
            if (variadic && !(need('.') && need('.'))) {
                return null;
            }
            if (behindOptional && !optional && !variadic) {
                failAt(at);
                return null;
            }
            return new Argument(type, optional, variadic);
        }

        private Type readType() {
            Name name = readName(true);
            boolean list = name == Name.LIST;
            if (list) {
                name = need('<') ? readName(false) : null;
            }
            if (name == null) {
                return null;
            }
            int own = mode;
            long[] words = name == Name.ENUM ? readWords() : null;
            if (name == Name.ENUM && words == null) {
                return null;
            }
            boolean nullable = name != Name.ANY && take('?');
            Type type = new Type(name, own, nullable, words, null);
            if (!list) {
                return type;
            }
            return need('>') ? new Type(Name.LIST, WRAP, take('?'), null, type) : null;
        }

        /** Perhaps [C] or [E], and the name of a TYPE; null if it cannot be there. */
        private Name readName(boolean listToo) {
            mode = WRAP;
            if (take('[')) {
                mode = take('C') ? CLAMP : take('E') ? ENFORCE : WRAP;
                if (mode == WRAP || !take(']')) {
                    failAt(at);
                    return null;
                }
            }
            int start = at;
            Name name = nameOf(readWord());
            if (name == null || mode != WRAP && !name.hasBounds() || name == Name.LIST && !listToo) {
                failAt(start);
                return null;
            }
            return name;
        }

        private static Name nameOf(long code) {
            for (Name name : NAMES) {
                if (name != null && Text.codeOf(name.letters) == code) {
                    return name;
                }
            }
            return null;
        }

        /** The codes of an enum's WORDS, 0 behind them; null for a fault. */
        private long[] readWords() {
            if (!need('(')) {
                return null;
            }
            long[] words = new long[WORDS];
            for (int i = 0; i < words.length; i++) {
                int start = at;
                long code = readWord();
                if (code == 0 || hasCode(words, code)) {
                    failAt(start);
                    return null;
                }
                words[i] = code;
                if (i == words.length - 1 || !take(',')) {
                    break;
                }
            }
            return need(')') ? words : null;
        }

        private static boolean hasCode(long[] words, long code) {
            for (long word : words) {
                if (word == code) {
                    return true;
                }
            }
            return false;
        }
    }

    /** Reads the NUMBER of a TEXT. */
    private static final class Numeral {
        /** What was read last, 0 if there was none. */
        double found = 0;

        boolean read(Text text) {
            found = 0;
            int from = 0;
            int to = text.length;
            while (from < to && text.at(from) == BLANK) {
                from++;
            }
            while (to > from && text.at(to - 1) == BLANK) {
                to--;
            }
            if (from == to) {
                return true;
            }
            if (text.at(from) == '0' && text.at(from + 1) == 'x') {
                return readHexadecimal(text, from + 2, to);
            }
            boolean minus = text.at(from) == '-';
            boolean signed = minus || text.at(from) == '+';
            if (!readDecimal(text, signed ? from + 1 : from, to)) {
                return false;
            }
            // 0 - 0 is 0, where -0.0 would be the other zero.
            found = minus ? 0 - found : found;
            return true;
        }

        private boolean readHexadecimal(Text text, int from, int to) {
            if (to - from < 1 || to - from > 8) {
                return false;
            }
            long digits = 0;
            for (int i = from; i < to; i++) {
                int digit = digitOf(text.at(i));
                if (digit < 0) {
                    return false;
                }
                digits = digits * 16 + digit;
            }
            found = digits;
            return true;
        }

        private static int digitOf(char sign) {
            if (isDigit(sign)) {
                return sign - '0';
            }
            if (sign >= 'a' && sign <= 'f') {
                return sign - 'a' + 10;
            }
            return sign >= 'A' && sign <= 'F' ? sign - 'A' + 10 : NONE;
        }

        private static boolean isDigit(char sign) {
            return sign >= '0' && sign <= '9';
        }

        /** Digits with at most one point, which is neither first nor last. */
        private boolean readDecimal(Text text, int from, int to) {
            if (from >= to || !isDigit(text.at(from)) || !isDigit(text.at(to - 1))) {
                return false;
            }
            long digits = 0;
            double power = 1;
            boolean behindPoint = false;
            for (int i = from; i < to; i++) {
                char sign = text.at(i);
                if (sign == '.' && !behindPoint) {
                    behindPoint = true;
                } else if (isDigit(sign)) {
                    digits = digits * 10 + (sign - '0');
                    power = behindPoint ? power * 10 : power;
                } else {
                    return false;
                }
            }
            found = digits / power;
            return true;
        }
    }

    /** Converts VALUES to TYPES: each function puts what a VALUE is then into another thing. */
    private static final class Converter {
        /** Whether the VALUE can be converted for the ARGUMENT. */
        static boolean convert(Argument argument, Thing value, Thing into) {
            if (value.kind == UNDEFINED && argument.canBeMissing()) {
                into.become(MISSING);
                return true;
            }
            Type type = argument.type;
            Type element = type.element;
            if (element == null || type.nullable && value.isUndefinedOrNull()) {
                return convertPlain(type, value, into);
            }
            if (value.kind != A_LIST) {
                return false;
            }
            into.become(A_LIST);
            for (int i = 0; i < value.size; i++) {
                Thing part = value.itemAt(i);
                Thing next = into.nextItem();
                if (part == null || next == null || !convertPlain(element, part, next)) {
                    return false;
                }
            }
            return true;
        }

        /** Whether the VALUE can be converted to a TYPE that is no list, or is NULL. */
        private static boolean convertPlain(Type type, Thing value, Thing into) {
            if (type.nullable && value.isUndefinedOrNull()) {
                into.become(NULL);
                return true;
            }
            if (type.name == Name.ANY) {
                into.copyAll(value);
                return true;
            }
            if (type.name == Name.BOOLEAN) {
                into.becomeWhole(A_BOOLEAN, value.isTrue() ? 1 : 0);
                return true;
            }
            if (type.name.sort == NUMBERS) {
                return convertNumber(type, value, into);
            }
            if (type.name == Name.ENUM && !type.hasWord(value.text.wordCode())) {
                return false;
            }
            into.becomeText(value.text);
            return true;
        }

        private static boolean convertNumber(Type type, Thing value, Thing into) {
            Name name = type.name;
            if (!value.hasNumber && (name == Name.DOUBLE || type.mode == ENFORCE)) {
                return false;
            }
            double number = value.hasNumber ? value.real : 0;
            if (name == Name.DOUBLE) {
                into.becomeDouble(number);
                return true;
            }
            long cut = (long) number;
            if (type.mode == ENFORCE && (cut < name.least || cut > name.most)) {
                return false;
            }
            long whole = type.mode == CLAMP
                    ? Math.max(name.least, Math.min(name.most, rounded(number)))
                    : wrapped(cut, name.least, name.most);
            into.becomeWhole(A_WHOLE, whole);
            return true;
        }

        /** The bounds are a power of two apart (less one), so that a mask does for the remainder. */
        private static long wrapped(long whole, long least, long most) {
            return ((whole - least) & (most - least)) + least;
        }

        /** Halves to the even one. What a double has behind its whole part is exact. */
        private static long rounded(double number) {
            long cut = (long) number;
            double rest = number - cut;
            double size = rest < 0 ? -rest : rest;
            if (size > 0.5 || size == 0.5 && (cut & 1) != 0) {
                return rest < 0 ? cut - 1 : cut + 1;
            }
            return cut;
        }
    }
}
