import java.io.IOException;
import java.nio.file.Files;
import java.nio.file.Path;
import java.util.ArrayList;
import java.util.HashMap;
import java.util.HashSet;
import java.util.List;
import java.util.Map;
import java.util.Set;

/** The document cut into its sentences, so that a test can say which one it holds the class to. */
final class Sentences {
    /** The section of the terms, where a number of a promise could stand. */
    static final int TERMS = 0;

    private static final Path DOCUMENT = Path.of("../shared/DOC.md");

    // Headings, and what says nothing that a call could answer.
    private static final Set<String> WITHOUT_TEST = Set.of("Program", "Instructions", "Exits", "Points and paths",
        "Reaching definitions", "Live variables", "Available expressions", "Dominators", "Loops", "Constants",
        "Interpreter", "Actions", "Program text", "Errors in a text", "what later calls answer is free",
        "A workbench for dataflow analyses on a control flow graph: reaching definitions, live variables, available "
        + "expressions, dominators, natural loops and constant propagation, with an interpreter and with edits that can "
        + "be undone");

    private final Map<Integer, List<String>> sentences = new HashMap<>();
    private final Map<Integer, Set<String>> quoted = new HashMap<>();
    private final boolean found = Files.isReadable(DOCUMENT);

    Sentences() throws IOException {
        if (!found) {
            System.out.println("no " + DOCUMENT + " to compare the quotations with");
            return;
        }
        int section = -1;
        boolean code = false;
        for (String line : Files.readAllLines(DOCUMENT)) {
            code ^= line.startsWith("```");
            if (line.startsWith("## ")) {
                section = sectionOf(line);
            } else if (section >= 0 && !code && !line.startsWith("Ahead of the calls")) {
                cut(plain(line), sentences.computeIfAbsent(section, key -> new ArrayList<>()));
            }
        }
    }

    private static int sectionOf(String heading) {
        if (heading.startsWith("## Promise ")) {
            return Integer.parseInt(heading.substring(11, heading.indexOf(':')));
        }
        return heading.equals("## Terms") || heading.equals("## What it is") ? TERMS : -1;
    }

    /** A line without its list mark and the signature before it. */
    private static String plain(String line) {
        String text = line.startsWith("`") ? line.replaceFirst("^`[^`]*`: ", "") : line.replaceFirst("^- ", "");
        return text.replace("`", "");
    }

    /** Cuts behind full stops and semicolons, but not inside a quoted text. */
    private static void cut(String line, List<String> into) {
        StringBuilder sentence = new StringBuilder();
        boolean inQuotes = false;
        for (int i = 0; i < line.length(); i++) {
            char sign = line.charAt(i);
            inQuotes ^= sign == '"';
            boolean last = i + 1 == line.length() || line.charAt(i + 1) == ' ';
            if ((sign == '.' || sign == ';') && last && !inQuotes) {
                into.add(sentence.toString().trim());
                sentence.setLength(0);
            } else {
                sentence.append(sign);
            }
        }
        if (!sentence.toString().isBlank()) {
            into.add(sentence.toString().trim());
        }
    }

    /** A new object for a test of its own of this sentence, which must stand in the document. */
    Calls says(int promise, String sentence) {
        Calls.check("the document, promise " + promise + ", says: " + sentence,
            !found || sentences.getOrDefault(promise, List.of()).contains(sentence), true);
        quoted.computeIfAbsent(promise, key -> new HashSet<>()).add(sentence);
        return new Calls((promise == TERMS ? "terms" : "promise " + promise) + ", \"" + sentence + "\"");
    }

    /** Every sentence of these sections must have had its test. */
    void checkAllQuoted(int first, int last) {
        for (int promise = first; promise <= last; promise++) {
            for (String sentence : sentences.getOrDefault(promise, List.of())) {
                Calls.check("a test of promise " + promise + ", \"" + sentence + "\", stands",
                    WITHOUT_TEST.contains(sentence) || quoted.getOrDefault(promise, Set.of()).contains(sentence), true);
            }
        }
    }
}
