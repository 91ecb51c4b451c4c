import java.io.IOException;
import java.nio.file.Files;
import java.nio.file.Path;
import java.util.LinkedHashMap;
import java.util.Map;
import java.util.TreeSet;
import java.util.regex.Pattern;

/**
 * Tells with each check which sentence of the document it is about, sees that the sentence stands
 * there, and in the end that no sentence of the overview and the terms and no clause of a promise
 * was left out.
 */
final class Sentences {
    private static final Path DOCUMENT = Path.of("../shared/DOC.md");
    private static final Pattern NAMES_A_NUMBER = Pattern.compile("\\d|greater");

    private final Check check = new Check();
    private final Map<String, String> sections = new LinkedHashMap<>();
    private final Map<String, StringBuilder> quoted = new LinkedHashMap<>();
    private String heading = "";
    private int checksHere = 1;

    Sentences() throws IOException {
        for (String part : Files.readString(DOCUMENT).split("(?m)^#+ ")) {
            String title = part.lines().findFirst().orElse("").replaceAll(":.*", "");
            sections.put(title, part);
        }
    }

    /** The checks that follow are about these words, which stand in this section. */
    void about(String section, String words) {
        closeHeading();
        heading = section + ": " + words;
        checksHere = 0;
        check.is(heading + " | stands in the document", plain(sections.getOrDefault(section, "")).contains(words), true);
        quoted.computeIfAbsent(section, key -> new StringBuilder()).append(words).append('\n');
    }

    void is(String what, Object got, Object due) {
        checksHere++;
        check.is(heading + " | " + what, got, due);
    }

    void refuses(String what, Class<? extends RuntimeException> kind, Check.Call call) {
        checksHere++;
        check.refuses(heading + " | " + what, kind, call);
    }

    void end(String name) {
        closeHeading();
        check.is("the overview is read", sections.containsKey("What it is"), true);
        check.is("the terms are read", sections.containsKey("Terms"), true);
        check.is("the first promise is read", sections.containsKey("Promise 1"), true);
        check.is("the last promise is read", sections.containsKey("Promise 32"), true);
        for (String section : sections.keySet()) {
            if (section.equals("What it is") || section.equals("Terms")) {
                for (String sentence : sentencesOf(section, sections.get(section))) requireQuoted(section, sentence);
            } else if (section.startsWith("Promise ")) {
                for (String clause : clausesOf(sections.get(section))) requireQuoted(section, clause);
            }
        }
        check.end(name);
    }

    private void closeHeading() {
        check.is(heading + " | has checks", checksHere > 0, true);
    }

    /** One of the quotes must be a part of the sentence, or the sentence a part of it. */
    private void requireQuoted(String section, String sentence) {
        boolean found = false;
        for (String words : quoted.getOrDefault(section, new StringBuilder()).toString().split("\n")) {
            found |= !words.isEmpty() && (sentence.contains(words) || words.contains(sentence));
        }
        check.is(section + ": " + sentence + " | has checks of its own", found, true);
    }

    private static String plain(String text) {
        return text.replaceAll("\\s+", " ");
    }

    /** Without the one or two words ahead of a paragraph, and without the list of calls behind the terms. */
    private static TreeSet<String> sentencesOf(String title, String section) {
        TreeSet<String> found = new TreeSet<>();
        String text = plain(section.substring(title.length())).replaceFirst("Ahead of the calls.*", "").trim();
        for (String sentence : text.split("(?<=\\.) (?=[A-Z])")) {
            if (sentence.split(" ").length > 2) found.add(sentence);
        }
        return found;
    }

    /** What a promise says of its call, its answer, its exceptions, and its numbers, if they have a bound. */
    private static TreeSet<String> clausesOf(String section) {
        TreeSet<String> found = new TreeSet<>();
        for (String paragraph : section.split("\n\n|\n(?=- )")) {
            String clause = plain(paragraph).trim();
            boolean isNumber = clause.startsWith("- ");
            if (clause.startsWith("Promise") || isNumber && !NAMES_A_NUMBER.matcher(clause).find()) continue;
            found.add(clause.startsWith("`") ? clause.replaceFirst("^`.*?`: ", "") : clause);
        }
        return found;
    }
}
