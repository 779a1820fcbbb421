import java.io.IOException;
import java.io.UncheckedIOException;
import java.nio.charset.StandardCharsets;
import java.nio.file.Files;
import java.nio.file.Path;
import java.util.ArrayList;
import java.util.LinkedHashMap;
import java.util.List;
import java.util.Map;

/**
 * The words of ../shared/DOC.md, section by section, and which of them a test has named. So a sentence that no test
 * holds the class against is found, and so is a test that names words which the document does not have.
 */
final class Document {
    static final List<String> TESTS = List.of("ModelTest", "TermsTest", "BuffersTest", "WavesTest", "CodesTest",
        "TextsTest", "SnapshotsTest", "LooksTest", "WouldBeTest");

    private static final Path PATH = Path.of("../shared/DOC.md");
    /** Two headings of the document are lines without a mark. */
    private static final List<String> BARE_HEADINGS = List.of("Waves, blocks", "Snapshots, undo");

    private final Map<String, String> texts = new LinkedHashMap<>();
    private final Map<String, boolean[]> named = new LinkedHashMap<>();
    private final List<String> face = new ArrayList<>();

    private Document() {
    }

    static Document read() {
        Document document = new Document();
        if (Files.isReadable(PATH)) {
            document.readSections();
        }
        return document;
    }

    /** The document is not part of this project: without it, the tests run, but their names are not held against it. */
    boolean isThere() {
        return !texts.isEmpty();
    }

    /** The lines of the class's face. */
    List<String> face() {
        return face;
    }

    /** The sections with words that a class can be held against. */
    List<String> sections() {
        List<String> sections = new ArrayList<>();
        for (String section : texts.keySet()) {
            if (!texts.get(section).isEmpty() && !section.equals("Not promised")) {
                sections.add(section);
            }
        }
        return sections;
    }

    /** Which test names the words of which sections. */
    static List<String> heldBy(String test) {
        switch (test) {
            case "ModelTest":
                return List.of("What it is");
            case "TermsTest":
                return List.of("Terms", "Steps", "Waves, blocks", "Settings");
            case "BuffersTest":
                return List.of("Input text", "Snapshots, undo", "Exceptions");
            case "WavesTest":
                return promises(1, 6);
            case "CodesTest":
                return promises(7, 9);
            case "TextsTest":
                return promises(10, 14);
            case "SnapshotsTest":
                return promises(15, 17);
            case "LooksTest":
                return promises(18, 22);
            case "WouldBeTest":
                return promises(23, 29);
            default:
                return List.of();
        }
    }

    private static List<String> promises(int first, int last) {
        List<String> promises = new ArrayList<>();
        for (int number = first; number <= last; number++) {
            promises.add("Promise " + number);
        }
        return promises;
    }

    /** Marks the words as named, and tells what is wrong with them; nothing if they stand there just once. */
    String name(String section, String words) {
        String text = texts.get(section);
        if (text == null) {
            return "the document has no section " + section;
        }
        int at = text.indexOf(words);
        if (words.isEmpty() || at < 0) {
            return "the document does not say so under " + section;
        }
        if (text.indexOf(words, at + 1) >= 0) {
            return "the document says so twice under " + section;
        }
        boolean[] marks = named.get(section);
        for (int k = at; k < at + words.length(); k++) {
            marks[k] = true;
        }
        return "";
    }

    /** The words of a section that no test has named. */
    List<String> leftOut(String section) {
        List<String> parts = new ArrayList<>();
        String text = texts.getOrDefault(section, "");
        StringBuilder part = new StringBuilder();
        for (int k = 0; k <= text.length(); k++) {
            if (k < text.length() && !named.get(section)[k]) {
                part.append(text.charAt(k));
            } else {
                addIfWords(parts, part.toString());
                part.setLength(0);
            }
        }
        return parts;
    }

    private static void addIfWords(List<String> parts, String part) {
        for (char sign : part.toCharArray()) {
            if (Character.isLetterOrDigit(sign)) {
                parts.add(part.trim());
                return;
            }
        }
    }

    private void readSections() {
        StringBuilder text = new StringBuilder();
        String section = "";
        boolean inCode = false;
        for (String line : lines()) {
            if (line.startsWith("```")) {
                inCode = !inCode;
            } else if (line.startsWith("#") || BARE_HEADINGS.contains(line)) {
                put(section, text);
                section = line.replaceAll("^#+ ", "").replaceAll("^(Promise [0-9]+):.*", "$1");
            } else if (inCode) {
                face.add(line);
            } else {
                text.append(' ').append(bare(line));
            }
        }
        put(section, text);
    }

    private static List<String> lines() {
        try {
            return Files.readAllLines(PATH, StandardCharsets.UTF_8);
        } catch (IOException e) {
            throw new UncheckedIOException(e);
        }
    }

    /** Without the mark of a list, the face of a call (FaceTest holds it), and how the face's text is laid out. */
    private static String bare(String line) {
        if (line.startsWith("Ahead of the calls ")) {
            return "";
        }
        return line.replaceAll("^- ", "").replaceAll("^`[^`]*\\)[^`]*`: ", "");
    }

    private void put(String section, StringBuilder text) {
        String words = text.toString().replaceAll("\\s+", " ").trim();
        texts.put(section, words);
        named.put(section, new boolean[words.length()]);
        text.setLength(0);
    }
}
