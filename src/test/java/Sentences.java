import java.io.IOException;
import java.nio.file.Files;
import java.nio.file.Path;
import java.util.ArrayList;
import java.util.BitSet;
import java.util.List;
import java.util.Map;
import java.util.TreeMap;

/** The sentences of the document, in its own words, each with a test of its own. */
final class Sentences {
    interface Test {
        void on(Check check);
    }

    private record Sentence(String section, String words, Test test) { }

    private final List<Sentence> all = new ArrayList<>();
    private String section = "";

    /** The heading of the section that the sentences added next stand in. */
    void section(String heading) {
        section = heading;
    }

    void says(String words, Test test) {
        all.add(new Sentence(section, words, test));
    }

    void run(Check check) {
        for (Sentence sentence : all) {
            check.about(sentence.section + ": " + sentence.words);
            int before = check.asked();
            try {
                sentence.test.on(check);
            } catch (RuntimeException thrown) {
                check.holds("no call throws: " + thrown, false);
            }
            check.holds("the test asks something", check.asked() > before);
        }
        System.out.println(all.size() + " tests of sentences");
    }

    /**
     * That every sentence stands in the document where it is said to stand, and that the tests leave
     * out no word of "Terms" and of the promises: a sentence that comes new or changes needs a test.
     */
    void compareWith(Path document, Check check) throws IOException {
        check.about(document.toString());
        Map<String, String> sections = sectionsOf(document);
        Map<String, BitSet> tested = new TreeMap<>();
        for (Sentence sentence : all) {
            int at = sections.getOrDefault(sentence.section, "").indexOf(sentence.words);
            check.holds("\"" + sentence.section + "\" says: " + sentence.words, at >= 0);
            if (at >= 0) {
                tested.computeIfAbsent(sentence.section, name -> new BitSet()).set(at, at + sentence.words.length());
            }
        }
        for (Map.Entry<String, String> each : sections.entrySet()) {
            if (each.getKey().equals("Terms") || each.getKey().startsWith("Promise ")) {
                String left = leftOver(each.getValue(), tested.getOrDefault(each.getKey(), new BitSet()));
                check.holds("all of \"" + each.getKey() + "\" is tested; left over: " + left, left.isEmpty());
            }
        }
    }

    private static String leftOver(String text, BitSet tested) {
        StringBuilder left = new StringBuilder();
        for (int i = 0; i < text.length(); i++) {
            boolean isWord = Character.isLetterOrDigit(text.charAt(i));
            left.append(tested.get(i) ? ' ' : isWord || left.length() > 0 ? text.charAt(i) : ' ');
        }
        String words = left.toString().replaceAll("\\s+", " ").trim();
        return words.chars().anyMatch(Character::isLetterOrDigit) ? words : "";
    }

    /** The text of each section on one line, without the signature of the method that it is about. */
    private static Map<String, String> sectionsOf(Path document) throws IOException {
        Map<String, StringBuilder> texts = new TreeMap<>();
        String heading = "";
        for (String line : Files.readAllLines(document)) {
            if (line.startsWith("## ")) {
                heading = line.substring(3).trim();
            } else {
                texts.computeIfAbsent(heading, name -> new StringBuilder()).append(line).append(' ');
            }
        }
        Map<String, String> sections = new TreeMap<>();
        texts.forEach((name, text) -> sections.put(name,
            text.toString().replaceAll("\\s+", " ").trim().replaceFirst("^`[^`]*`: ", "")));
        return sections;
    }
}
