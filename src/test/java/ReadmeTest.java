import java.io.IOException;
import java.lang.reflect.Method;
import java.lang.reflect.Modifier;
import java.nio.charset.StandardCharsets;
import java.nio.file.Files;
import java.nio.file.Path;
import java.util.ArrayList;
import java.util.Arrays;
import java.util.List;
import java.util.Set;
import java.util.TreeSet;
import java.util.regex.Matcher;
import java.util.regex.Pattern;
import java.util.stream.IntStream;
import java.util.stream.Stream;

/** README.md: its program is compiled and run as it says, and what its tables say is tried row by row. */
public final class ReadmeTest {
    private static final Path README = Path.of("README.md");
    private static final Path EXAMPLE = Path.of("build/example/Example.java");
    private static final Path TESTS = Path.of("src/test/java");
    private static final Pattern CODE = Pattern.compile("`([^`]*)`");

    private static List<String> lines = List.of();

    public static void main(String[] args) throws IOException, InterruptedException {
        lines = Files.readAllLines(README);
        program();
        calls();
        constants();
        defined();
        chosen();
        becomes();
        testsAreTold();
        Check.end("ReadmeTest");
    }

    // What README.md has.

    /** The lines of the first block of this sort. */
    private static String block(String sort) {
        int from = lines.indexOf("```" + sort);
        if (from < 0) {
            Check.complain("no block of " + sort);
            return "";
        }
        int length = lines.subList(from + 1, lines.size()).indexOf("```");
        return String.join("\n", lines.subList(from + 1, from + 1 + length)) + "\n";
    }

    /** The cells of the table with this head, a row each. */
    private static List<List<String>> table(String head) {
        List<List<String>> rows = new ArrayList<>();
        int from = lines.indexOf(head);
        for (int at = from + 2; from >= 0 && at < lines.size() && lines.get(at).startsWith("|"); at++) {
            String line = lines.get(at);
            String[] cells = line.substring(1, line.lastIndexOf('|')).split("\\|", -1);
            rows.add(Arrays.stream(cells).map(String::trim).toList());
        }
        if (rows.isEmpty()) {
            Check.complain("no table of " + head);
        }
        return rows;
    }

    private static List<String> codes(String cell) {
        return CODE.matcher(cell).results().map(found -> found.group(1)).toList();
    }

    private static String code(String cell) {
        List<String> all = codes(cell);
        return all.size() == 1 ? all.get(0) : "";
    }

    /** A number, or a constant by its name. */
    private static int number(String cell) {
        return switch (cell) {
            case "NONE" -> IdlCaller.NONE;
            case "SIGN" -> IdlCaller.SIGN;
            case "SAME" -> IdlCaller.SAME;
            case "FULL" -> IdlCaller.FULL;
            case "KIND" -> IdlCaller.KIND;
            default -> Integer.parseInt(cell);
        };
    }

    /** undefined, null, a boolean, a number, a text in "", or a LIST of these in []. */
    private static Object value(String told) {
        if (told.startsWith("[")) {
            String items = told.substring(1, told.length() - 1);
            return items.isEmpty() ? Expect.list() : Stream.of(items.split(", ")).map(ReadmeTest::value).toArray();
        }
        if (told.startsWith("\"")) {
            return told.substring(1, told.length() - 1);
        }
        return switch (told) {
            case "undefined" -> Expect.UNDEFINED;
            case "null" -> null;
            case "true", "false" -> told.equals("true");
            default -> Double.valueOf(told);
        };
    }

    // What is so when it is tried.

    private static void program() throws IOException, InterruptedException {
        Files.createDirectories(EXAMPLE.getParent());
        Files.writeString(EXAMPLE, block("java"));
        Process commands = new ProcessBuilder("sh", "-e", "-c", block("sh"))
                .redirectError(ProcessBuilder.Redirect.INHERIT).start();
        String printed = new String(commands.getInputStream().readAllBytes(), StandardCharsets.UTF_8);
        Check.due("exit code of the commands", commands.waitFor(), 0);
        Check.dueText("what the program prints", printed.replace(System.lineSeparator(), "\n"), block("text"));
    }

    /** Each method with as many numbers and with the exceptions that it has, and no other one. */
    private static void calls() {
        List<String> face = new ArrayList<>();
        for (Method method : IdlCaller.class.getDeclaredMethods()) {
            if (Modifier.isPublic(method.getModifiers())) {
                face.add(method.getName() + " " + method.getParameterCount()
                        + sorted(Arrays.stream(method.getExceptionTypes()).map(Class::getSimpleName)));
            }
        }
        List<String> told = new ArrayList<>();
        for (List<String> row : table("| Call | What it does, and what it answers | Throws |")) {
            Matcher call = Pattern.compile("(\\w+)\\((.*)\\)").matcher(code(row.get(0)));
            if (!call.matches()) {
                Check.complain("no call: " + row.get(0));
                continue;
            }
            int numbers = call.group(2).isEmpty() ? 0 : call.group(2).split(", ").length;
            told.add(call.group(1) + " " + numbers
                    + sorted(codes(row.get(2)).stream().filter(code -> code.endsWith("Exception"))));
        }
        Check.dueText("the calls", sorted(told.stream()), sorted(face.stream()));
    }

    private static String sorted(Stream<String> texts) {
        return texts.sorted().toList().toString();
    }

    private static void constants() {
        List<List<String>> rows = table("| Constant | |");
        Check.due("how many constants", rows.size(), 5);
        for (List<String> row : rows) {
            Check.due(row.get(0), number(code(row.get(0))), Integer.parseInt(row.get(1)));
        }
    }

    private static void defined() {
        for (List<String> row : table("| FORMS | THE LINE | `define()` | `place()` |")) {
            IdlCaller x = Check.with(codes(row.get(0)).toArray(String[]::new));
            Check.due("define of " + row, Check.define(x, code(row.get(1))), number(row.get(2)));
            Check.due("place of " + row, x.place(), number(row.get(3)));
        }
    }

    private static void chosen() {
        for (List<String> row : table("| FORMS | VALUES | `call(0, n)` | `place()` |")) {
            IdlCaller x = Check.with(codes(row.get(0)).toArray(String[]::new));
            Object[] values = codes(row.get(1)).stream().map(ReadmeTest::value).toArray();
            Check.due("call of " + row, Expect.call(x, values), number(row.get(2)));
            Check.due("place of " + row, x.place(), number(row.get(3)));
        }
    }

    private static void becomes() {
        List<List<String>> kinds = table("| `kind` and `item` | It is | `whole` |");
        Set<Integer> tried = new TreeSet<>();
        for (List<String> row : table("| ARGUMENT | VALUE | `call(0, 1)` | `kind(0)` | `whole(0, NONE)` |"
                + " `real(0, NONE)` | characters, or kinds of items |")) {
            IdlCaller x = Check.with("a(" + code(row.get(0)) + ")");
            int answer = Expect.call(x, new Object[] {value(code(row.get(1)))});
            Check.due("call of " + row, answer, number(row.get(2)));
            if (answer == 0 && !row.get(3).isEmpty()) {
                Check.due("kind of " + row, x.kind(0), number(row.get(3)));
                Check.due("whole of " + row, x.whole(0, IdlCaller.NONE), number(row.get(4)));
                Check.dueReal("real of " + row, x.real(0, IdlCaller.NONE), Double.parseDouble(row.get(5)));
                Check.dueText("more of " + row, moreOf(x), code(row.get(6)));
                tried.add(x.kind(0));
                kinds.stream().filter(kind -> kind.get(0).equals("" + x.kind(0)))
                        .forEach(kind -> wholeOfKind(kind.get(2), x));
            }
        }
        Check.dueText("kinds that are tried", tried.toString(),
                kinds.stream().map(row -> row.get(0)).toList().toString());
    }

    private static void wholeOfKind(String told, IdlCaller x) {
        long whole = x.whole(0, IdlCaller.NONE);
        boolean holds = switch (told) {
            case "0" -> whole == 0;
            case "1 or 0" -> whole == 1 || whole == 0;
            // Which number or which size it is, the row of the VALUE tells.
            case "the number" -> x.kind(0) == 3;
            case "its size" -> x.kind(0) == 5 || x.kind(0) == 6;
            default -> false;
        };
        if (!holds) {
            Check.complain("whole of kind " + x.kind(0) + " is told as " + told + ", answered was " + whole);
        }
    }

    /** The characters of a text, or the kinds of a list's items. */
    private static String moreOf(IdlCaller x) {
        if (x.kind(0) == 5) {
            return Check.textAt(x, 0, IdlCaller.NONE);
        }
        List<String> items = new ArrayList<>();
        for (int i = 0; x.kind(0) == 6 && i < x.whole(0, IdlCaller.NONE); i++) {
            items.add("" + x.item(0, i));
        }
        return String.join(" ", items);
    }

    /** The tests that are run, and the files of sentences, are those that are there; each promise has a test. */
    private static void testsAreTold() throws IOException {
        Set<String> promises = new TreeSet<>();
        for (List<String> row : table("| Test | Promises |")) {
            Pattern.compile("\\d+").matcher(row.get(1)).results().forEach(number -> promises.add(number.group()));
        }
        Check.dueText("promises with a test", promises.toString(),
                sorted(IntStream.rangeClosed(1, 17).mapToObj(Integer::toString)));
        Check.dueText("tests", namesOf("| Test | Promises |"), filesThatEnd("Test"));
        Check.dueText("files of sentences", namesOf("| File | Sentences |"), filesThatEnd("Sentences"));
    }

    private static String namesOf(String head) {
        return sorted(table(head).stream().map(row -> code(row.get(0))));
    }

    private static String filesThatEnd(String end) throws IOException {
        try (Stream<Path> files = Files.list(TESTS)) {
            return sorted(files.map(file -> file.getFileName().toString()).filter(name -> name.endsWith(end + ".java"))
                    .map(name -> name.substring(0, name.length() - ".java".length()))
                    .filter(name -> !name.equals(end)));
        }
    }
}
