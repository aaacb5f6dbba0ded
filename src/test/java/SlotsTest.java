/** Promises 7 to 10: simple, number, text, add. */
public final class SlotsTest {
    private static final int NONE = IdlCaller.NONE;

    public static void main(String[] args) {
        simple();
        number();
        text();
        add();
        addRefused();
        wrongSlots();
        Check.end("SlotsTest");
    }

    /** SLOT 0 as it is. */
    private static String told(IdlCaller x) {
        Check.due("call", x.call(0, 1), 0);
        return Check.show(x, 0);
    }

    private static void simple() {
        IdlCaller x = Check.with("a(any)");
        String[] due = {"undefined", "null", "false", "true", "[]"};
        for (int what = 0; what < due.length; what++) {
            x.simple(0, what);
            Check.dueText("simple " + what, told(x), due[what]);
        }
        for (int what : new int[] {-1, 5, Integer.MIN_VALUE, Integer.MAX_VALUE}) {
            Check.refusesArgument("simple(0, " + what + ")", () -> x.simple(0, what));
            Check.dueText("what throws changes nothing", told(x), "[]");
        }
        IdlCaller y = Check.with("a(any, any...)");
        for (int slot = 0; slot < 8; slot++) {
            y.simple(slot, 1 + slot % 4);
        }
        y.call(0, 8);
        Check.dueText("each SLOT", Check.showAll(y), "null; false; true; []; null; false; true; []");
    }

    private static void number() {
        IdlCaller x = Check.with("a(any)");
        for (double value : new double[] {0, 1, -1, 0.125, -0.875, 2147483648.0, -2147483648.0, 2147483647.875,
                -2147483647.875, 1234.5}) {
            x.number(0, value);
            Check.dueText("number " + value, told(x), "d" + value);
        }
        double[] wrong = {2147483648.125, -2147483648.125, 4294967296.0, -4294967296.0, 0.1, 0.0625, -0.0625, 1e-300,
            1e300, -1e300, 1.0 / 3, Double.MIN_VALUE, Double.MAX_VALUE, Double.NaN, Double.POSITIVE_INFINITY,
            Double.NEGATIVE_INFINITY, 1000000.0625, Math.nextUp(2147483648.0), Math.nextDown(-2147483648.0)};
        for (double value : wrong) {
            Check.refusesArgument("number " + value, () -> x.number(0, value));
            Check.dueText("what throws changes nothing", told(x), "d1234.5");
        }
        x.number(0, -0.0);
        told(x);
        Check.dueReal("the other zero", x.real(0, NONE), 0);
    }

    private static void text() {
        IdlCaller x = Check.with("a(any)");
        Check.due("text", x.text(0, 0x61626364, 0x65666768, 0x696a6b6c), 12);
        Check.dueText("text", told(x), "'abcdefghijkl'");
        Check.due("a byte 0 is none", x.text(0, 0x00610000, 0x62000063, 0), 3);
        Check.dueText("text", told(x), "'abc'");
        Check.due("no characters", x.text(0, 0, 0, 0), 0);
        Check.dueText("text", told(x), "''");
        Check.due("1 and 255", x.text(0, 0x010000ff, -1, 0x80), 7);
        Check.dueText("text", told(x), "'\u0001\u00ff\u00ff\u00ff\u00ff\u00ff\u0080'");
        Check.due("shorter again", Check.tell(x, 0, "z"), 1);
        Check.dueText("text", told(x), "'z'");
    }

    private static void add() {
        IdlCaller x = Check.with("a(any)");
        x.simple(0, 4);
        x.simple(1, 0);
        x.simple(2, 1);
        x.simple(3, 2);
        x.number(4, -7.5);
        Check.tell(x, 5, "twelve chars");
        Check.due("first", x.add(0, 1), 1);
        Check.due("second", x.add(0, 2), 2);
        Check.due("third", x.add(0, 3), 3);
        Check.due("fourth", x.add(0, 4), 4);
        Check.due("fifth", x.add(0, 5), 5);
        String due = "[undefined null false d-7.5 'twelve chars']";
        Check.dueText("the LIST", told(x), due);
        x.number(5, 1);
        x.simple(1, 3);
        Check.dueText("SLOTS that change leave it", told(x), due);
        Check.refusesState("a sixth", () -> x.add(0, 5));
        Check.dueText("what throws changes nothing", told(x), due);
        x.simple(0, 4);
        Check.dueText("a LIST without VALUES again", told(x), "[]");
        Check.due("the same SLOT twice", x.add(0, 4) + x.add(0, 4), 3);
        Check.dueText("the LIST", told(x), "[d-7.5 d-7.5]");
    }

    private static void addRefused() {
        IdlCaller x = Check.with("a(any, any)");
        Check.define(x, "b(boolean");
        x.simple(0, 4);
        x.simple(1, 4);
        Check.refusesState("a LIST in a LIST", () -> x.add(0, 1));
        Check.refusesState("a LIST in itself", () -> x.add(0, 0));
        for (int what = 0; what < 4; what++) {
            x.simple(1, what);
            Check.refusesState("to what is no LIST", () -> x.add(1, 2));
            Check.refusesState("to what is no LIST, from a LIST", () -> x.add(1, 0));
            Check.refusesState("to itself", () -> x.add(1, 1));
        }
        x.number(1, 2);
        Check.refusesState("to a number", () -> x.add(1, 2));
        Check.tell(x, 1, "[]");
        Check.refusesState("to a text", () -> x.add(1, 2));
        Check.due("place as it was", x.place(), 9);
        x.call(0, 2);
        Check.dueText("what throws changes nothing", Check.showAll(x), "[]; '[]'");
    }

    private static void wrongSlots() {
        IdlCaller x = Check.with("a(any)");
        x.simple(0, 4);
        for (int slot : new int[] {-1, 8, 9, Integer.MIN_VALUE, Integer.MAX_VALUE}) {
            Check.refusesArgument("simple of " + slot, () -> x.simple(slot, 0));
            Check.refusesArgument("number of " + slot, () -> x.number(slot, 0));
            Check.refusesArgument("text of " + slot, () -> x.text(slot, 0, 0, 0));
            Check.refusesArgument("add to " + slot, () -> x.add(slot, 1));
            Check.refusesArgument("add from " + slot, () -> x.add(0, slot));
            Check.refusesArgument("add to what is no LIST from " + slot, () -> x.add(1, slot));
        }
        Check.dueText("SLOTS are as they were", told(x), "[]");
        Check.due("SLOT 7 is one", x.add(0, 7), 1);
    }
}
