import java.io.IOException;
import java.lang.reflect.Method;
import java.nio.file.Files;
import java.nio.file.Path;
import java.util.ArrayList;
import java.util.List;

/** src/test/SENTENCES.md: it tells the whole document, and of each sentence a test that there is. */
final class SentencesTest {
    private static final Path DOCUMENT = Path.of("../shared/DOC.md");

    public static void main(String[] args) throws IOException {
        List<String> sentences = new ArrayList<>();
        boolean tested = true;
        for (String line : Files.readAllLines(Path.of("src/test/SENTENCES.md"))) {
            if (line.startsWith("> ")) {
                Check.due("tests of: " + (tested ? "" : sentences.get(sentences.size() - 1)), tested ? 1 : 0, 1);
                sentences.add(line.substring(2));
                tested = false;
            } else if (!tested && !line.isBlank() && !line.startsWith("#")) {
                for (String name : line.trim().split(" +")) {
                    Check.due(name + " is a test", isTest(name) ? 1 : 0, 1);
                }
                tested = true;
            }
        }
        Check.due("the last sentence has a test", tested ? 1 : 0, 1);
        Check.due("sentences", sentences.size() > 100 ? 1 : 0, 1);
        if (Files.exists(DOCUMENT)) {
            compare(words(Files.readAllLines(DOCUMENT)), words(sentences));
        }
        Check.finish("SentencesTest");
    }

    private static boolean isTest(String name) {
        int dot = name.indexOf('.');
        if (dot < 0 || !name.substring(0, dot).endsWith("Test")) {
            return false;
        }
        try {
            for (Method method : Class.forName(name.substring(0, dot)).getDeclaredMethods()) {
                if (method.getName().equals(name.substring(dot + 1))) {
                    return true;
                }
            }
        } catch (ClassNotFoundException e) {
            return false;
        }
        return false;
    }

    /** Without headings and what fences code. */
    private static List<String> words(List<String> lines) {
        List<String> words = new ArrayList<>();
        for (String line : lines) {
            if (!line.startsWith("#") && !line.startsWith("```")) {
                for (String word : line.trim().split("\\s+")) {
                    if (!word.isEmpty()) {
                        words.add(word);
                    }
                }
            }
        }
        return words;
    }

    private static void compare(List<String> document, List<String> told) {
        int same = 0;
        while (same < document.size() && same < told.size() && document.get(same).equals(told.get(same))) {
            same++;
        }
        int from = Math.max(0, same - 8);
        Check.due("words of the document up to '" + String.join(" ", document.subList(from, same)) + "'", same,
                Math.max(document.size(), told.size()));
    }
}
