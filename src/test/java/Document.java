import java.io.IOException;
import java.nio.file.Files;
import java.nio.file.Path;
import java.util.ArrayList;
import java.util.LinkedHashMap;
import java.util.List;
import java.util.Map;

/** The document, section by section, and which of its words a test has told already. */
final class Document {
    private final Map<String, String> sections = new LinkedHashMap<>();
    private final Map<String, boolean[]> told = new LinkedHashMap<>();

    Document(Path file) throws IOException {
        String all = Files.readString(file);
        for (String chapter : all.split("\n## ")) {
            if (chapter.startsWith("Terms\n")) {
                addTerms(chapter.substring(chapter.indexOf('\n')));
            } else if (chapter.startsWith("Promise ")) {
                addPromise(chapter);
            }
        }
        add("What it is", "An object is used for at most 512 calls after it has been made");
    }

    /** Each paragraph of the terms begins with its name. Those that only name calls say nothing to test. */
    private void addTerms(String terms) {
        for (String paragraph : terms.strip().split("\n\n")) {
            String plain = plain(paragraph);
            int end = plain.indexOf(". ");
            if (!plain.startsWith("Ahead of the calls") && end > 0) {
                add(plain.substring(0, end), plain.substring(end + 2));
            }
        }
    }

    /** Left out are the signature, and the rows of parameters that name no number. */
    private void addPromise(String chapter) {
        String[] rows = chapter.split("\n");
        StringBuilder text = new StringBuilder();
        for (int row = 1; row < rows.length; row++) {
            if (rows[row].startsWith("`")) {
                text.append(rows[row].substring(rows[row].indexOf("`: ") + 3)).append(' ');
            } else if (!rows[row].startsWith("- ") || rows[row].matches(".*\\d.*")) {
                text.append(rows[row]).append(' ');
            }
            if (rows[row].startsWith("## ")) {
                break;
            }
        }
        add(rows[0].substring(0, rows[0].indexOf(':')), plain(text.toString()));
    }

    private void add(String name, String text) {
        sections.put(name, text);
        told.put(name, new boolean[text.length()]);
    }

    private static String plain(String text) {
        return text.strip().replaceAll("\\s+", " ");
    }

    /** Marks the words as told, and tells whether they stand in the section. */
    boolean tell(String section, String words) {
        String text = sections.getOrDefault(section, "");
        boolean stands = false;
        for (int at = text.indexOf(words); at >= 0 && !words.isEmpty(); at = text.indexOf(words, at + 1)) {
            stands = true;
            for (int index = at; index < at + words.length(); index++) {
                told.get(section)[index] = true;
            }
        }
        return stands;
    }

    /** The words that no test has told. */
    List<String> untold() {
        List<String> rest = new ArrayList<>();
        for (Map.Entry<String, String> section : sections.entrySet()) {
            StringBuilder words = new StringBuilder();
            for (int index = 0; index <= section.getValue().length(); index++) {
                if (index < section.getValue().length() && !told.get(section.getKey())[index]) {
                    words.append(section.getValue().charAt(index));
                } else if (words.toString().matches(".*\\w.*")) {
                    rest.add(section.getKey() + ": " + words);
                    words.setLength(0);
                } else {
                    words.setLength(0);
                }
            }
        }
        return rest;
    }
}
