import java.io.IOException;
import java.io.UncheckedIOException;
import java.nio.file.Files;
import java.nio.file.Path;
import java.util.ArrayList;
import java.util.Arrays;
import java.util.LinkedHashMap;
import java.util.List;
import java.util.Map;

/** The document's parts ("Terms", "Terms 1" .. "Terms 4", "Promise 1" ..), and which of their words a test is of. */
final class Document {
    private static final Path PLACE = Path.of("../shared/DOC.md");

    private final Map<String, String> texts = new LinkedHashMap<>();
    private final Map<String, boolean[]> tested = new LinkedHashMap<>();

    Document() {
        String part = "";
        for (String line : lines()) {
            String begun = begins(line, part);
            if (begun.equals(part) && !line.startsWith("```")) {
                texts.merge(part, ' ' + line, String::concat);
            } else if (!begun.equals(part)) {
                texts.put(begun, line.replaceFirst("^=+ \\d|^#.*", ""));
                part = begun;
            }
        }
        texts.keySet().removeIf(name -> !name.startsWith("Terms") && !name.startsWith("Promise"));
        texts.replaceAll((name, text) -> plain(text));
        texts.forEach((name, text) -> tested.put(name, new boolean[text.length()]));
    }

    private static List<String> lines() {
        try {
            return Files.readAllLines(PLACE);
        } catch (IOException e) {
            throw new UncheckedIOException(e);
        }
    }

    /** The part that a line is of, if the one ahead of it is of another. */
    private static String begins(String line, String part) {
        if (line.startsWith("## ")) {
            return line.substring(3).replaceFirst(":.*", "");
        }
        if (line.startsWith("======== ")) {
            return "Terms " + line.charAt(9);
        }
        return line.startsWith("Ahead of the calls") ? "the interface" : part;
    }

    /** Without the face of a call, and with single blanks. */
    private static String plain(String text) {
        return text.replaceAll("`[^`]*`:", " ").replaceAll("\\s+", " ").trim();
    }

    /** Of words that stand there more than once, the first that no test is of. False: the part has none. */
    boolean marks(String part, String words) {
        String text = texts.getOrDefault(part, "");
        int first = words.isEmpty() ? -1 : text.indexOf(words);
        if (first < 0) {
            return false;
        }
        int at = first;
        while (at >= 0 && isTested(part, at, words.length())) {
            at = text.indexOf(words, at + 1);
        }
        int begin = at < 0 ? first : at;
        Arrays.fill(tested.get(part), begin, begin + words.length(), true);
        return true;
    }

    private boolean isTested(String part, int at, int length) {
        for (int i = at; i < at + length; i++) {
            if (!tested.get(part)[i]) {
                return false;
            }
        }
        return true;
    }

    /** All words that no test is of, by part. */
    List<String> untested() {
        List<String> rest = new ArrayList<>();
        texts.forEach((part, text) -> {
            StringBuilder left = new StringBuilder();
            for (int i = 0; i < text.length(); i++) {
                left.append(tested.get(part)[i] ? '|' : text.charAt(i));
            }
            if (left.chars().anyMatch(Character::isLetterOrDigit)) {
                rest.add(part + ": " + left.toString().replaceAll("\\|+", "|"));
            }
        });
        return rest;
    }

    int parts() {
        return texts.size();
    }
}
