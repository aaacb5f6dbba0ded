import java.util.ArrayList;
import java.util.List;

/** All promises: long runs of calls, made by dice that always fall alike, compared with Model. */
public final class ModelTest {
    private static final int RUNS = 3000;
    /** Of one object; what later ones answer is free. */
    private static final int CALLS = 512;
    private static final String[] PLAIN = {"boolean", "byte", "octet", "short", "long", "[C]byte", "[E]octet", "[C]long",
        "[E]long", "[E]short", "double", "string", "string", "enum(on,off)", "enum(a,b,c)", "any"};
    private static final String[] TEXTS = {"", " ", "on", "off", "a", "b", "true", "null", "5", "-5", "+7.50", "0x1f",
        "0xFFFFFFFF", "2.5", "-2.5", "0.1", "1e3", "300", "-129", "99999999999", "-0", " 12 ", "x,y", "."};
    private static final double[] NUMBERS = {0, -0.0, 1, -1, 0.5, 1.5, 2.5, -0.5, -1.5, 127.5, 128, -128.5, 255.5, 256,
        32767.5, -32768.5, 65536, 2147483647.5, 2147483648.0, -2147483648.0, 0.125, -7.875, 100};
    private static final String SIGNS = "abcdefgh()<>[],.?CE  0-xyz";
    private static final String NUMERALS = "0123456789.+-x aF";

    private static long dice = 20261118;
    private static final int[] answers = new int[12];
    /** How many calls the object of this run may still have. */
    private static int left = 0;

    public static void main(String[] args) {
        for (int run = 0; run < RUNS; run++) {
            run(run);
        }
        // So many of each kind there must be, or the dice are badly made.
        String[] names = {"new FORM 0", "later FORM", "SIGN", "SAME", "FULL", "call of FORM 0", "call of a later FORM", "KIND"};
        for (int i = 0; i < names.length; i++) {
            if (answers[i] < 100) {
                Check.complain("only " + answers[i] + " times: " + names[i]);
            }
        }
        Check.end("ModelTest");
    }

    private static int roll(int sides) {
        dice = dice * 6364136223846793005L + 1442695040888963407L;
        return (int) ((dice >>> 33) % sides);
    }

    private static <T> T one(T[] of) {
        return of[roll(of.length)];
    }

    private static void run(int number) {
        IdlCaller x = new IdlCaller();
        Model model = new Model();
        int operations = 1 + roll(2);
        // Few OPERATIONS get full unless they are mostly defined.
        int defines = roll(3) == 0 ? 16 : 8;
        String told = "run " + number + ": ";
        left = CALLS;
        // At the end, and at the end of each step, something is asked.
        spend(12);
        while (left > 0) {
            step(told, x, model, operations, defines);
            if (spend(1)) {
                Check.due(told + "place", x.place(), model.place);
            }
        }
        for (int what = 0; what < 12; what++) {
            Check.due(told + "operation 0, " + what, x.operation(0, what), model.operation(0, what));
        }
    }

    /** Whether there are so many calls left; if not the run is at its end. */
    private static boolean spend(int calls) {
        left -= calls;
        return left >= 0;
    }

    private static void step(String told, IdlCaller x, Model model, int operations, int defines) {
        int turn = roll(20);
        if (turn < defines) {
            define(told, x, model, operations);
        } else if (turn < 13) {
            for (int slot = 0; slot < 8; slot++) {
                tell(x, model, slot);
            }
        } else if (turn < 19) {
            call(told, x, model, roll(operations));
        } else if (roll(3) == 0 && spend(1)) {
            int operation = roll(operations);
            Check.due(told + "drop", x.drop(operation), model.operations.get(operation).size());
            model.operations.get(operation).clear();
        }
    }

    private static void count(int answer, int atLeastZero) {
        answers[answer >= 0 ? atLeastZero + Math.min(answer, 1) : atLeastZero == 0 ? -answer : 7]++;
    }

    private static void define(String told, IdlCaller x, Model model, int operations) {
        String form = form((char) ('a' + roll(operations)));
        if (roll(6) == 0) {
            form = spoiled(form);
        }
        if (roll(4) == 0) {
            form = form.replace(",", " , ").replace("(", "( ");
        }
        form = form.substring(0, Math.min(form.length(), 100));
        // An erase, a type of nothing, one for each twenty characters, define and place.
        if (!spend(4 + (form.length() + 19) / 20)) {
            return;
        }
        model.line.setLength(0);
        model.line.append(form);
        int due = model.define();
        count(due, 0);
        Check.due(told + "define of " + form, Check.define(x, form), due);
        Check.due(told + "place in " + form, x.place(), model.place);
    }

    private static String form(char operation) {
        List<String> arguments = new ArrayList<>();
        int count = roll(5) + roll(2);
        boolean optional = false;
        for (int i = 0; i < count; i++) {
            String type = roll(6) == 0 ? "list<" + maybeNullable(one(PLAIN)) + ">" : one(PLAIN);
            type = maybeNullable(i == 0 && roll(2) == 0 ? "any" : type);
            optional |= roll(7) == 0;
            boolean last = i == count - 1 && roll(4) == 0;
            arguments.add(last ? type + "..." : optional ? "optional " + type : type);
        }
        return operation + "(" + String.join(",", arguments) + ")";
    }

    private static String maybeNullable(String type) {
        return roll(5) == 0 && !type.equals("any") ? type + "?" : type;
    }

    private static String spoiled(String form) {
        int at = roll(form.length());
        String sign = "" + SIGNS.charAt(roll(SIGNS.length()));
        return switch (roll(4)) {
            case 0 -> form.substring(0, at);
            case 1 -> form.substring(0, at) + form.substring(at + 1);
            case 2 -> form.substring(0, at) + sign + form.substring(at);
            default -> form.substring(0, at) + sign + form.substring(at + 1);
        };
    }

    private static void tell(IdlCaller x, Model model, int slot) {
        if (roll(5) == 0 && slot < 7) {
            List<Object> values = new ArrayList<>();
            int size = roll(3) == 0 ? roll(6) : roll(2);
            if (!spend(1 + 2 * size)) {
                return;
            }
            x.simple(slot, 4);
            for (int i = 0; i < size; i++) {
                Object value = value();
                tellPlain(x, 7, value);
                values.add(value);
                Check.due("add", x.add(slot, 7), values.size());
            }
            model.slots.set(slot, values);
        } else if (spend(1)) {
            Object value = value();
            tellPlain(x, slot, value);
            model.slots.set(slot, value);
        }
    }

    private static Object value() {
        return switch (roll(9)) {
            case 0 -> Model.UNDEFINED;
            case 1 -> Model.NULL;
            case 2 -> roll(2) == 0;
            case 3, 4 -> NUMBERS[roll(NUMBERS.length)];
            case 5 -> (roll(1 << 20) - (1 << 19)) / 8.0;
            case 6, 7 -> one(TEXTS);
            default -> {
                StringBuilder text = new StringBuilder();
                for (int i = roll(13); i > 0; i--) {
                    text.append(NUMERALS.charAt(roll(roll(2) == 0 ? 10 : NUMERALS.length())));
                }
                yield text.toString();
            }
        };
    }

    private static void tellPlain(IdlCaller x, int slot, Object value) {
        Check.tellAny(x, slot, value == Model.NULL ? null : value);
    }

    private static void call(String told, IdlCaller x, Model model, int operation) {
        int n = roll(3) == 0 ? roll(9) : Math.max(0, Math.min(8, model.most(operation) - roll(2)));
        if (!spend(2)) {
            return;
        }
        int due = model.call(operation, n);
        count(due, 5);
        Check.due(told + "call(" + operation + ", " + n + ")", x.call(operation, n), due);
        Check.due(told + "place of the call", x.place(), model.place);
        // To show a place takes no more calls than it has characters, and at the end it is asked whether there is one more.
        String converted = model.showAll();
        if (spend(3 + converted.length())) {
            Check.dueText(told + "what was converted", Check.showAll(x).replace("d-0.0", "d0.0"), converted);
        }
    }
}
