import java.io.IOException;
import java.nio.file.Files;
import java.nio.file.Path;
import java.util.Arrays;
import java.util.LinkedHashMap;
import java.util.Map;
import java.util.regex.Matcher;
import java.util.regex.Pattern;

/** The document by sections, and which of its words a test has quoted. Read from the project's folder. */
final class Doc {
    /** A section's words, blanks made one, with a mark on each sign that was quoted. */
    private record Section(String words, boolean[] quoted) { }

    private final Map<String, Section> sections = new LinkedHashMap<>();

    Doc() {
        String all;
        try {
            all = Files.readString(Path.of("../shared/DOC.md"));
        } catch (IOException e) {
            throw new IllegalStateException("../shared/DOC.md can't be read", e);
        }
        add("What it is", all.substring(all.indexOf("## What it is"), all.indexOf("## The public face")));
        String terms = all.substring(all.indexOf("## Terms"), all.indexOf("## Promise 1:"));
        String[] roman = {"\nI. ", "\nII. ", "\nIII. ", "\nIV. ", "\nThe constants: "};
        for (int i = 0; i + 1 < roman.length; i++) {
            add("Term " + roman[i].replaceAll("[\n. ]", ""),
                terms.substring(terms.indexOf(roman[i]) + roman[i].length(), terms.indexOf(roman[i + 1])));
        }
        add("Constants", terms.substring(terms.indexOf(roman[4]), terms.indexOf("Ahead of the calls")));
        Matcher m = Pattern.compile("(?s)## Promise (\\d+): [^\n]*\n\n`[^`]*`: (.*?)(?=\n## )").matcher(all);
        while (m.find()) {
            add("Promise " + m.group(1), m.group(2));
        }
    }

    private void add(String name, String text) {
        String words = text.replaceAll("```(text)?", " ").replaceAll("\\s+", " ").trim();
        sections.put(name, new Section(words, new boolean[words.length()]));
    }

    int promises() {
        return (int) sections.keySet().stream().filter(name -> name.startsWith("Promise ")).count();
    }

    /** How often these words stand in a section; they count as quoted. */
    int quote(String name, String words) {
        Section section = sections.get(name);
        int found = 0;
        for (int at = section.words.indexOf(words); at >= 0; at = section.words.indexOf(words, at + 1)) {
            Arrays.fill(section.quoted, at, at + words.length(), true);
            found++;
        }
        return found;
    }

    /** What no test has quoted of a section, signs and blanks between quotes left out. */
    String unquoted(String name) {
        Section section = sections.get(name);
        StringBuilder b = new StringBuilder();
        for (int i = 0; i < section.words.length(); i++) {
            b.append(section.quoted[i] ? ' ' : section.words.charAt(i));
        }
        String rest = b.toString().replaceAll("\\s+", " ").trim();
        return rest.matches("[^A-Za-z0-9]*") ? "" : rest;
    }
}
