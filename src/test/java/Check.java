/** What the tests share: due answers, and calls told with texts instead of packed numbers. */
final class Check {
    private static int wrong = 0;
    private static int told = 0;
    private static String about = "";

    private Check() {
    }

    interface Call {
        void run();
    }

    static void due(String what, long got, long want) {
        if (got != want) {
            complain(what + " answered " + got + ", due is " + want);
        }
    }

    static void dueReal(String what, double got, double want) {
        if (got != want) {
            complain(what + " answered " + got + ", due is " + want);
        }
    }

    static void dueText(String what, String got, String want) {
        if (!got.equals(want)) {
            complain(what + " answered '" + got + "', due is '" + want + "'");
        }
    }

    static void refusesArgument(String what, Call call) {
        dueText(what, thrownBy(call), "IllegalArgumentException");
    }

    static void refusesState(String what, Call call) {
        dueText(what, thrownBy(call), "IllegalStateException");
    }

    private static String thrownBy(Call call) {
        try {
            call.run();
        } catch (RuntimeException e) {
            return e.getClass().getSimpleName();
        }
        return "nothing";
    }

    /** What the complaints that come are about, in front of each. */
    static void about(String what) {
        about = what;
        told = 0;
    }

    static void complain(String what) {
        wrong++;
        told++;
        // A few of a matter are enough to see what it is.
        if (told <= (about.isEmpty() ? 40 : 5)) {
            System.out.println(about + what);
        }
    }

    static void end(String test) {
        System.out.println(test + ": " + (wrong == 0 ? "passed" : wrong + " wrong"));
        if (wrong != 0) {
            System.exit(1);
        }
    }

    /** Four characters of the text from a place on, as type and text take them. */
    static int four(String text, int from) {
        int packed = 0;
        for (int i = from; i < from + 4; i++) {
            packed = packed << 8 | (i < text.length() ? text.charAt(i) : 0);
        }
        return packed;
    }

    /** Types behind what THE LINE has. */
    static int typeMore(IdlCaller x, String text) {
        int length = x.type(0, 0, 0, 0, 0);
        for (int i = 0; i < text.length(); i += 20) {
            length = x.type(four(text, i), four(text, i + 4), four(text, i + 8), four(text, i + 12), four(text, i + 16));
        }
        return length;
    }

    static int define(IdlCaller x, String form) {
        x.erase();
        typeMore(x, form);
        return x.define();
    }

    /** Defines what can be defined. */
    static IdlCaller with(String... forms) {
        IdlCaller x = new IdlCaller();
        for (String form : forms) {
            int number = define(x, form);
            if (number < 0) {
                complain("define of " + form + " answered " + number + " at " + x.place());
            }
        }
        return x;
    }

    static int tell(IdlCaller x, int slot, String text) {
        if (text.length() > 12) {
            complain("the test tells a text that is too long: " + text);
        }
        return x.text(slot, four(text, 0), four(text, 4), four(text, 8));
    }

    /** A SLOT becomes a LIST of numbers, texts and (null, Boolean) others; SLOT 7 is used to add from. */
    static void tellList(IdlCaller x, int slot, Object... values) {
        x.simple(slot, 4);
        for (Object value : values) {
            tellAny(x, 7, value);
            x.add(slot, 7);
        }
    }

    /** A Double, a String, a Boolean, null, and another object for undefined. */
    static void tellAny(IdlCaller x, int slot, Object value) {
        if (value == null) {
            x.simple(slot, 1);
        } else if (value instanceof Boolean b) {
            x.simple(slot, b ? 3 : 2);
        } else if (value instanceof Double d) {
            x.number(slot, d);
        } else if (value instanceof String s) {
            tell(x, slot, s);
        } else {
            x.simple(slot, 0);
        }
    }

    static String textAt(IdlCaller x, int k, int i) {
        StringBuilder text = new StringBuilder();
        long length = x.whole(k, i);
        for (int c = 0; c < length; c++) {
            text.append(x.sign(k, i, c));
        }
        return text.toString();
    }

    /** Place k as one text: what it is, and what it holds. */
    static String show(IdlCaller x, int k) {
        int kind = x.kind(k);
        if (kind != 6) {
            return showPart(x, k, IdlCaller.NONE, kind);
        }
        StringBuilder all = new StringBuilder("[");
        for (int i = 0; i < x.whole(k, IdlCaller.NONE); i++) {
            all.append(i > 0 ? " " : "").append(showPart(x, k, i, x.item(k, i)));
        }
        return all.append("]").toString();
    }

    private static String showPart(IdlCaller x, int k, int i, int kind) {
        return switch (kind) {
            case IdlCaller.NONE -> "none";
            case 0 -> "missing";
            case 1 -> "NULL";
            case 2 -> x.whole(k, i) == 1 ? "true" : x.whole(k, i) == 0 ? "false" : "no boolean";
            case 3 -> "w" + x.whole(k, i);
            case 4 -> "d" + x.real(k, i);
            case 5 -> "'" + textAt(x, k, i) + "'";
            case 7 -> "undefined";
            case 8 -> "null";
            default -> "kind " + kind;
        };
    }

    /** All places of what was converted last, as one text. */
    static String showAll(IdlCaller x) {
        StringBuilder all = new StringBuilder();
        for (int k = 0; k < 8 && x.kind(k) != IdlCaller.NONE; k++) {
            all.append(k > 0 ? "; " : "").append(show(x, k));
        }
        return all.toString();
    }
}
