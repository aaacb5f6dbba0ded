import java.io.IOException;
import java.nio.file.Files;
import java.nio.file.Path;
import java.util.LinkedHashMap;
import java.util.Map;

/**
 * Tests of one sentence of ../shared/DOC.md each, which they quote. Each quotation is looked up in the
 * document, and what no test quotes of the Terms and the promises is complained of, so that no sentence
 * is without a test. Where there is no document, the tests run all the same.
 */
final class Sentences {
    private static final Path DOCUMENT = Path.of("../shared/DOC.md");

    private final Map<String, String> sections = new LinkedHashMap<>();
    private final Map<String, boolean[]> quoted = new LinkedHashMap<>();
    private int count = 0;

    Sentences() {
        if (!Files.isReadable(DOCUMENT)) {
            System.out.println("no " + DOCUMENT + ": quotations are not looked up");
            return;
        }
        try {
            read(Files.readString(DOCUMENT));
        } catch (IOException e) {
            Check.complain(DOCUMENT + " cannot be read: " + e);
        }
    }

    private void read(String document) {
        for (String section : document.split("(?m)^#+ ")) {
            int end = section.indexOf('\n');
            if (end < 0) {
                continue;
            }
            String heading = section.substring(0, end).replaceAll(":.*", "");
            // A promise begins with the method's head, which FaceTest looks at.
            String text = folded(section.substring(end).replaceFirst("^\\s*`[^`]*`: ", "").replaceAll("```(text)?",
                    ""));
            sections.put(heading, text);
            quoted.put(heading, new boolean[text.length()]);
        }
    }

    private static String folded(String text) {
        return text.trim().replaceAll("\\s+", " ");
    }

    /** The test complains where the sentence does not hold. */
    void holds(String heading, String sentence, Check.Call test) {
        count++;
        quote(heading, sentence);
        Check.about(heading + " says \"" + sentence + "\": ");
        try {
            test.run();
        } catch (RuntimeException | StackOverflowError thrown) {
            Check.complain("thrown was " + thrown);
        }
        Check.about("");
    }

    private void quote(String heading, String sentence) {
        if (sections.isEmpty()) {
            return;
        }
        int at = sections.getOrDefault(heading, "").indexOf(folded(sentence));
        if (at < 0) {
            Check.complain(heading + " does not say \"" + sentence + "\"");
            return;
        }
        for (int i = at; i < at + folded(sentence).length(); i++) {
            quoted.get(heading)[i] = true;
        }
    }

    void end(String test) {
        for (Map.Entry<String, String> section : sections.entrySet()) {
            if (section.getKey().equals("Terms") || section.getKey().startsWith("Promise ")) {
                complainOfUnquoted(section.getKey(), section.getValue());
            }
        }
        Check.end(test + " (" + count + " sentences)");
    }

    private void complainOfUnquoted(String heading, String text) {
        StringBuilder left = new StringBuilder();
        for (int i = 0; i < text.length(); i++) {
            left.append(quoted.get(heading)[i] ? '\n' : text.charAt(i));
        }
        for (String part : left.toString().split("\n+")) {
            if (part.matches(".*[A-Za-z0-9].*")) {
                Check.complain(heading + " says what no test quotes: \"" + part.trim() + "\"");
            }
        }
    }
}
