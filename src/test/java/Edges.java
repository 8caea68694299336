import java.io.IOException;
import java.nio.file.Files;
import java.nio.file.Path;
import java.util.LinkedHashMap;
import java.util.Map;
import java.util.regex.Matcher;
import java.util.regex.Pattern;

/**
 * The sentences of the document, each with the test that holds it. A sentence is told in the
 * document's own words; what no test has told of the terms and promises is told at the end, so
 * that no word of them is without a test.
 */
final class Edges {
    private static final Pattern PROMISE = Pattern.compile("^## (Promise \\d+): .*$",
            Pattern.MULTILINE);

    private final Map<String, String> texts = new LinkedHashMap<>();
    private final Map<String, boolean[]> told = new LinkedHashMap<>();
    private String section = "";

    Edges(Path document) throws IOException {
        if (!Files.isReadable(document)) {
            System.out.println("no " + document + ": sentences are not looked up in it");
            return;
        }
        String text = Files.readString(document);
        add("What it is", between(text, "An object is used", "## The public face"));
        add("Terms I", between(text, "THE LAND is a text", "II. OUNCES"));
        add("Terms II", between(text, "OUNCES of a TITLE", "III. LEAD"));
        add("Terms III", between(text, "LEAD is in COATS", "The constants:"));
        add("The constants", between(text, "The constants:", "Ahead of the calls"));
        Matcher heads = PROMISE.matcher(text);
        while (heads.find()) {
            String rest = text.substring(heads.end());
            // The call's own line of the face, in front, is no sentence.
            add(heads.group(1), between(rest, "`: ", "## ").substring(3));
        }
        Check.same("promises in the document", texts.size() - 5, 37);
    }

    private static String between(String text, String from, String to) {
        int start = text.indexOf(from);
        int end = text.indexOf(to, start);
        return start < 0 || end < 0 ? "" : text.substring(start, end);
    }

    private static String plain(String text) {
        return text.replaceAll("```\\w*", " ").replaceAll("\\s+", " ").trim();
    }

    private void add(String name, String text) {
        String sentences = plain(text);
        texts.put(name, sentences);
        told.put(name, new boolean[sentences.length()]);
    }

    /** The sentences that follow are of this part of the document. */
    void in(String name) {
        section = name;
        if (!texts.isEmpty()) {
            Check.same("the document has " + name, texts.containsKey(name), true);
        }
    }

    /** A sentence, and the test that fails if it is broken. */
    void holds(String sentence, Runnable test) {
        lookUp(sentence);
        Check.about(section + ", \"" + sentence + "\": ");
        int ahead = Check.checks();
        test.run();
        Check.same("a test", Check.checks() > ahead, true);
        Check.about("");
    }

    private void lookUp(String sentence) {
        if (!texts.containsKey(section)) {
            return;
        }
        String text = texts.get(section);
        int at = text.indexOf(sentence);
        Check.same(section + " has once: " + sentence,
                at >= 0 && text.indexOf(sentence, at + 1) < 0, true);
        for (int i = at; at >= 0 && i < at + sentence.length(); i++) {
            told.get(section)[i] = true;
        }
    }

    /** Every letter and digit of the document's sentences must have been told. */
    void nothingIsLeft() {
        for (Map.Entry<String, String> entry : texts.entrySet()) {
            StringBuilder left = new StringBuilder();
            boolean[] marks = told.get(entry.getKey());
            for (int i = 0; i < marks.length; i++) {
                char c = entry.getValue().charAt(i);
                left.append(!marks[i] && Character.isLetterOrDigit(c) ? c : ' ');
            }
            Check.same(entry.getKey() + " has words without a test", plain(left.toString()), "");
        }
    }
}
