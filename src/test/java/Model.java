import java.math.BigDecimal;
import java.math.BigInteger;
import java.math.RoundingMode;
import java.util.ArrayList;
import java.util.LinkedHashSet;
import java.util.List;
import java.util.Set;

/** The document once more, told with the Java library and no thought of speed, for ModelTest to compare with. */
final class Model {
    static final Object UNDEFINED = new Object();
    static final Object NULL = new Object();

    private static final Object MISSING = new Object();
    private static final Object TYPED_NULL = new Object();
    private static final List<String> WHOLE_NAMES = List.of("byte", "octet", "short", "long");

    record Type(String name, String mode, boolean nullable, List<String> words, Type element) {
        String sort() {
            return switch (name) {
                case "boolean", "list", "any" -> name;
                case "string", "enum" -> "STRING";
                default -> "NUMBER";
            };
        }

        boolean isDistinctFrom(Type other) {
            return !name.equals("any") && !other.name.equals("any") && !(nullable && other.nullable)
                    && !sort().equals(other.sort());
        }
    }

    record Argument(Type type, String how) {
    }

    record Form(int operation, List<Argument> arguments) {
        boolean isVariadic() {
            return !arguments.isEmpty() && arguments.get(arguments.size() - 1).how.equals("variadic");
        }

        boolean canBeCalledWith(int n) {
            if (n > arguments.size()) {
                return isVariadic() && n <= 8;
            }
            return arguments.subList(n, arguments.size()).stream().noneMatch(a -> a.how.equals("required"));
        }

        Argument at(int i) {
            return arguments.get(Math.min(i, arguments.size() - 1));
        }
    }

    private record Token(String text, int at) {
    }

    /** THE LINE cannot go on. */
    private static final class Fault extends Exception {
        private static final long serialVersionUID = 1;
        final int at;

        Fault(int at) {
            this.at = at;
        }
    }

    /** A VALUE has no TYPE to go to. */
    private static final class Refused extends Exception {
        private static final long serialVersionUID = 1;
    }

    final StringBuilder line = new StringBuilder();
    final List<List<Form>> operations = new ArrayList<>();
    final List<Object> slots = new ArrayList<>();
    List<Object> converted = List.of();
    int place = IdlCaller.NONE;

    private final List<Token> tokens = new ArrayList<>();

    Model() {
        for (int i = 0; i < 6; i++) {
            operations.add(new ArrayList<>());
        }
        for (int i = 0; i < 8; i++) {
            slots.add(UNDEFINED);
        }
    }

    // What is FORM.

    int define() {
        Form form;
        try {
            form = form();
        } catch (Fault fault) {
            place = fault.at;
            return IdlCaller.SIGN;
        }
        List<Form> forms = operations.get(form.operation);
        List<Form> more = new ArrayList<>(forms);
        more.add(form);
        for (int n = 0; n <= 8; n++) {
            List<Form> able = ableOf(more, n);
            if (able.contains(form) && able.size() > 1 && decidingOf(able, n) == IdlCaller.NONE) {
                place = n;
                return IdlCaller.SAME;
            }
        }
        place = IdlCaller.NONE;
        if (forms.size() == 6) {
            return IdlCaller.FULL;
        }
        forms.add(form);
        return forms.size() - 1;
    }

    private void tokenize() {
        tokens.clear();
        for (int i = 0; i < line.length(); ) {
            int end = i + 1;
            if (Character.toString(line.charAt(i)).matches("[a-z]")) {
                while (end < line.length() && Character.toString(line.charAt(end)).matches("[a-z]")) {
                    end++;
                }
            }
            if (line.charAt(i) != ' ') {
                tokens.add(new Token(line.substring(i, end), i));
            }
            i = end;
        }
        tokens.add(new Token("", line.length()));
    }

    private Token next() {
        return tokens.get(0);
    }

    private boolean take(String text) {
        if (next().text.equals(text)) {
            tokens.remove(0);
            return true;
        }
        return false;
    }

    private void need(String text) throws Fault {
        if (!take(text)) {
            throw new Fault(next().at);
        }
    }

    private Form form() throws Fault {
        tokenize();
        Token letter = next();
        if (!letter.text.matches("[a-f].*")) {
            throw new Fault(letter.at);
        }
        if (letter.text.length() > 1) {
            throw new Fault(letter.at + 1);
        }
        tokens.remove(0);
        need("(");
        List<Argument> arguments = new ArrayList<>();
        if (!next().text.equals(")")) {
            boolean behindOptional = false;
            do {
                arguments.add(argument(behindOptional));
                behindOptional |= arguments.get(arguments.size() - 1).how.equals("optional");
            } while (arguments.size() < 5 && !arguments.get(arguments.size() - 1).how.equals("variadic") && take(","));
        }
        need(")");
        need("");
        return new Form(letter.text.charAt(0) - 'a', arguments);
    }

    private Argument argument(boolean behindOptional) throws Fault {
        if (take("optional")) {
            return new Argument(type(true), "optional");
        }
        Type type = type(true);
        if (!behindOptional && !next().text.equals(".")) {
            return new Argument(type, "required");
        }
        need(".");
        need(".");
        need(".");
        return new Argument(type, "variadic");
    }

    private Type type(boolean listToo) throws Fault {
        String mode = "";
        if (take("[")) {
            mode = next().text;
            if (!mode.equals("C") && !mode.equals("E")) {
                throw new Fault(next().at);
            }
            take(mode);
            need("]");
        }
        Token name = next();
        Set<String> names = new LinkedHashSet<>(WHOLE_NAMES);
        if (mode.isEmpty()) {
            names.addAll(List.of("boolean", "double", "string", "any", "enum"));
            if (listToo) {
                names.add("list");
            }
        }
        if (!names.contains(name.text)) {
            throw new Fault(name.at);
        }
        take(name.text);
        List<String> words = name.text.equals("enum") ? words() : List.of();
        Type element = null;
        if (name.text.equals("list")) {
            need("<");
            element = type(false);
            need(">");
        }
        boolean nullable = !name.text.equals("any") && take("?");
        return new Type(name.text, mode, nullable, words, element);
    }

    private List<String> words() throws Fault {
        need("(");
        List<String> words = new ArrayList<>();
        do {
            Token word = next();
            if (!word.text.matches("[a-z]{1,8}") || words.contains(word.text)) {
                throw new Fault(word.at);
            }
            words.add(word.text);
            take(word.text);
        } while (words.size() < 5 && take(","));
        need(")");
        return words;
    }

    // Which FORM.

    private static List<Form> ableOf(List<Form> forms, int n) {
        return forms.stream().filter(form -> form.canBeCalledWith(n)).toList();
    }

    /** The DECIDING one as the document tells it: for each two the same one. */
    private static int decidingOf(List<Form> able, int n) {
        Set<Integer> all = new LinkedHashSet<>();
        for (int one = 0; one < able.size(); one++) {
            for (int other = 0; other < one; other++) {
                all.add(decidingOfTwo(able.get(one), able.get(other), n));
            }
        }
        return all.size() == 1 ? all.iterator().next() : IdlCaller.NONE;
    }

    private static int decidingOfTwo(Form one, Form other, int n) {
        for (int i = 0; i < n; i++) {
            boolean same = true;
            for (int before = 0; before < i; before++) {
                same &= one.at(before).equals(other.at(before));
            }
            if (same && one.at(i).type.isDistinctFrom(other.at(i).type)) {
                return i;
            }
        }
        return IdlCaller.NONE;
    }

    int most(int operation) {
        for (int n = 8; n >= 0; n--) {
            if (!ableOf(operations.get(operation), n).isEmpty()) {
                return n;
            }
        }
        return IdlCaller.NONE;
    }

    int operation(int operation, int what) {
        List<Form> forms = operations.get(operation);
        if (what == 0) {
            return forms.size();
        }
        if (what == 1) {
            return most(operation);
        }
        if (what > 2) {
            return decidingOf(ableOf(forms, what - 3), what - 3);
        }
        for (int n = 0; n <= 8; n++) {
            if (!ableOf(forms, n).isEmpty()) {
                return n;
            }
        }
        return IdlCaller.NONE;
    }

    int call(int operation, int told) {
        List<Form> forms = operations.get(operation);
        int n = told > most(operation) ? most(operation) : told;
        List<Form> able = ableOf(forms, n);
        if (able.isEmpty()) {
            place = told;
            return IdlCaller.KIND;
        }
        Form form = able.get(0);
        List<Object> all = new ArrayList<>();
        int deciding = decidingOf(able, n);
        for (int i = 0; i < n; i++) {
            try {
                if (i == deciding) {
                    form = choose(able, i);
                }
                all.add(convert(form.at(i), slots.get(i)));
            } catch (Refused refused) {
                place = i;
                return IdlCaller.KIND;
            }
        }
        while (all.size() < form.arguments.size()) {
            all.add(MISSING);
        }
        converted = all;
        place = IdlCaller.NONE;
        return forms.indexOf(form);
    }

    private Form choose(List<Form> able, int i) throws Refused {
        Object value = slots.get(i);
        List<java.util.function.Predicate<Argument>> rules = new ArrayList<>();
        if (value == UNDEFINED) {
            rules.add(a -> !a.how.equals("required"));
        }
        if (isNone(value)) {
            rules.add(a -> a.type.nullable);
        }
        if (value instanceof List<?>) {
            rules.add(a -> a.type.sort().equals("list"));
        }
        if (value instanceof Boolean) {
            rules.add(a -> a.type.sort().equals("boolean"));
        }
        if (value instanceof Double) {
            rules.add(a -> a.type.sort().equals("NUMBER"));
        }
        for (String sort : List.of("STRING", "NUMBER", "boolean")) {
            rules.add(a -> a.type.sort().equals(sort));
        }
        for (var rule : rules) {
            for (Form form : able) {
                if (rule.test(form.at(i))) {
                    return form;
                }
            }
        }
        throw new Refused();
    }

    // What a VALUE becomes.

    private static boolean isNone(Object value) {
        return value == UNDEFINED || value == NULL;
    }

    private static Object convert(Argument argument, Object value) throws Refused {
        if (value == UNDEFINED && !argument.how.equals("required")) {
            return MISSING;
        }
        return convert(argument.type, value);
    }

    private static Object convert(Type type, Object value) throws Refused {
        if (type.nullable && isNone(value)) {
            return TYPED_NULL;
        }
        switch (type.name) {
            case "any":
                return value instanceof List<?> list ? new ArrayList<Object>(list) : value;
            case "boolean":
                return !(isNone(value) || value.equals(false) || value.equals("")
                        || value instanceof Double d && d == 0);
            case "string":
                return textOf(value);
            case "enum":
                if (!type.words.contains(textOf(value))) {
                    throw new Refused();
                }
                return textOf(value);
            case "list":
                if (!(value instanceof List<?> list)) {
                    throw new Refused();
                }
                List<Object> items = new ArrayList<>();
                for (Object item : list) {
                    items.add(convert(type.element, item));
                }
                return items;
            default:
                return convertNumber(type, value);
        }
    }

    private static Object convertNumber(Type type, Object value) throws Refused {
        BigDecimal number = numberOf(value);
        if (number == null && (type.name.equals("double") || type.mode.equals("E"))) {
            throw new Refused();
        }
        if (type.name.equals("double")) {
            return number.doubleValue();
        }
        BigDecimal found = number == null ? BigDecimal.ZERO : number;
        int bits = type.name.equals("long") ? 32 : type.name.equals("short") ? 16 : 8;
        BigInteger size = BigInteger.TWO.pow(bits);
        BigInteger least = type.name.equals("octet") ? BigInteger.ZERO : size.shiftRight(1).negate();
        BigInteger most = least.add(size).subtract(BigInteger.ONE);
        if (type.mode.equals("C")) {
            return found.setScale(0, RoundingMode.HALF_EVEN).toBigInteger().max(least).min(most).longValueExact();
        }
        BigInteger cut = found.toBigInteger();
        if (type.mode.equals("E") && (cut.compareTo(least) < 0 || cut.compareTo(most) > 0)) {
            throw new Refused();
        }
        BigInteger rest = cut.mod(size);
        return (rest.compareTo(most) > 0 ? rest.subtract(size) : rest).longValueExact();
    }

    private static String textOf(Object value) {
        if (value == UNDEFINED) {
            return "undefined";
        }
        if (value == NULL) {
            return "null";
        }
        if (value instanceof Double d) {
            BigDecimal exact = new BigDecimal(d);
            return exact.signum() == 0 ? "0" : exact.stripTrailingZeros().toPlainString();
        }
        if (value instanceof List<?> list) {
            List<String> parts = new ArrayList<>();
            list.forEach(item -> parts.add(isNone(item) ? "" : textOf(item)));
            return String.join(",", parts);
        }
        return value.toString();
    }

    /** Null if it has none. */
    private static BigDecimal numberOf(Object value) {
        if (value == UNDEFINED) {
            return null;
        }
        if (value == NULL || value.equals(false)) {
            return BigDecimal.ZERO;
        }
        if (value.equals(true)) {
            return BigDecimal.ONE;
        }
        if (value instanceof Double d) {
            return new BigDecimal(d);
        }
        String text = textOf(value).replaceAll("^ +| +$", "");
        if (text.isEmpty()) {
            return BigDecimal.ZERO;
        }
        if (text.matches("0x[0-9a-fA-F]{1,8}")) {
            return new BigDecimal(new BigInteger(text.substring(2), 16));
        }
        return text.matches("[+-]?[0-9]+(\\.[0-9]+)?") ? new BigDecimal(text) : null;
    }

    // What was converted, in the words of Check.

    String showAll() {
        List<String> all = new ArrayList<>();
        converted.forEach(value -> all.add(show(value)));
        return String.join("; ", all);
    }

    private static String show(Object value) {
        if (value instanceof List<?> list) {
            List<String> parts = new ArrayList<>();
            list.forEach(item -> parts.add(show(item)));
            return "[" + String.join(" ", parts) + "]";
        }
        if (value instanceof Double d) {
            return "d" + (d == 0 ? 0.0 : d);
        }
        if (value instanceof Long l) {
            return "w" + l;
        }
        if (value instanceof String s) {
            return "'" + s + "'";
        }
        return value == MISSING ? "missing" : value == TYPED_NULL ? "NULL" : textOf(value);
    }
}
