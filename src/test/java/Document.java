import java.io.IOException;
import java.nio.file.Files;
import java.nio.file.Path;
import java.util.ArrayList;
import java.util.List;

/** The document's words, part by part (0: its Terms, 1 to 31: its promises), and which of them tests have quoted. */
final class Document {
    static final int TERMS = 0, PROMISES = 31;

    private final String[] parts = new String[PROMISES + 1];
    private final boolean[][] quoted = new boolean[PROMISES + 1][];

    /** Null if there is no document beside the checkout: then words can't be looked at. */
    static Document read() throws IOException {
        Path path = Path.of("../shared/DOC.md");
        return Files.isReadable(path) ? new Document(Files.readString(path)) : null;
    }

    private Document(String text) {
        for (String part : text.split("(?m)^## ")) {
            String name = part.lines().findFirst().orElse("");
            String body = part.substring(name.length());
            if (name.equals("Terms")) {
                keep(TERMS, body.replaceAll("(?m)^Ahead of the calls .*$", "").replaceAll("(?m)^==== \\d ", ""));
            }
            if (name.startsWith("Promise ")) {
                int promise = Integer.parseInt(name.substring(8, name.indexOf(':')));
                keep(promise, body.replaceAll("(?m)^`[^`]*`:", ""));
            }
        }
    }

    private void keep(int part, String body) {
        parts[part] = plain(body.replaceAll("(?m)^```.*$", ""));
        quoted[part] = new boolean[parts[part].length()];
    }

    private static String plain(String words) {
        return words.replaceAll("\\s+", " ").trim();
    }

    /** What is wrong with a quotation by a test of a promise; empty if it stands once in that promise, or in the Terms. */
    String quote(int promise, String words) {
        int part = parts[promise].contains(plain(words)) ? promise : TERMS;
        int at = parts[part].indexOf(plain(words));
        if (at < 0) {
            return "is not in the document";
        }
        if (parts[part].indexOf(plain(words), at + 1) >= 0) {
            return "stands there more than once";
        }
        for (int k = at; k < at + plain(words).length(); k++) {
            quoted[part][k] = true;
        }
        return "";
    }

    /** Words that no test has quoted. */
    List<String> unquoted() {
        List<String> left = new ArrayList<>();
        for (int part = 0; part <= PROMISES; part++) {
            StringBuilder run = new StringBuilder();
            for (int k = 0; k <= parts[part].length(); k++) {
                if (k < parts[part].length() && !quoted[part][k]) {
                    run.append(parts[part].charAt(k));
                } else {
                    if (run.toString().matches(".*[A-Za-z0-9].*")) {
                        left.add((part == TERMS ? "Terms: " : "promise " + part + ": ") + run);
                    }
                    run.setLength(0);
                }
            }
        }
        return left;
    }

    /** Whether a promise names a refusal or a fault. */
    boolean names(int promise, String refusal) {
        return parts[promise].matches(".*\\b" + refusal + "\\b.*");
    }
}
