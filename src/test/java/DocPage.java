import java.io.IOException;
import java.nio.charset.StandardCharsets;
import java.nio.file.Files;
import java.nio.file.Path;
import java.util.HashMap;
import java.util.LinkedHashMap;
import java.util.Map;

/** The document by its sections: a test quotes the sentence that it is for, and no sentence may be left without one. */
final class DocPage {
    private final Map<String, String> sections = new LinkedHashMap<>();
    private final Map<String, boolean[]> quoted = new HashMap<>();

    DocPage() {
        Path doc = Path.of("../shared/DOC.md");
        if (!Files.exists(doc)) {
            System.out.println("no document at " + doc + ": quotes are not compared");
            return;
        }
        try {
            read(new String(Files.readAllBytes(doc), StandardCharsets.UTF_8));
        } catch (IOException e) {
            throw new IllegalStateException(e);
        }
    }

    private void read(String whole) {
        for (String part : whole.split("(?m)^## ")) {
            int line = part.indexOf('\n');
            String name = part.substring(0, line).replaceAll(":.*", "").trim();
            String text = part.substring(line).replaceAll("```\\w*|==== \\d+\\.", " ").replaceAll("\\s+", " ").trim();
            text = text.replaceAll("^`[^`]*`: ", "");
            sections.put(name, text);
            quoted.put(name, new boolean[text.length()]);
        }
    }

    /** Begins the test of a sentence, which must stand in its section. */
    void says(String section, String sentence) {
        Bench.part(section + ", \"" + sentence + "\"");
        if (sections.isEmpty()) return;
        String text = sections.getOrDefault(section, "");
        int at = text.indexOf(sentence);
        Bench.due("the sentence stands in the document", at >= 0, true);
        for (; at >= 0; at = text.indexOf(sentence, at + 1)) {
            for (int p = at; p < at + sentence.length(); p++) quoted.get(section)[p] = true;
        }
    }

    /** What of a section nobody has quoted. */
    void allSaid(String section) {
        if (sections.isEmpty()) return;
        Bench.part(section);
        String text = sections.getOrDefault(section, "?");
        StringBuilder left = new StringBuilder();
        for (int p = 0; p < text.length(); p++) {
            boolean said = p < quoted.getOrDefault(section, new boolean[0]).length && quoted.get(section)[p];
            if (!said) left.append(text.charAt(p));
        }
        String rest = left.toString().trim();
        Bench.due("without a test stands: " + rest, rest.isEmpty(), true);
    }
}
