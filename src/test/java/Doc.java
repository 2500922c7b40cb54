import java.io.IOException;
import java.nio.file.Files;
import java.nio.file.Path;
import java.util.Arrays;
import java.util.HashMap;
import java.util.Map;
import java.util.regex.Matcher;
import java.util.regex.Pattern;

/** The document by its promises, and which of its sentences have had a boundary's words taken from them. */
final class Doc {
    private static final Path PLACE = Path.of("../shared/DOC.md");
    /** Stands for all that the document says ahead of promise 1. */
    static final int TERMS = 0;
    // The dots of "0, 1, .." end no sentence.
    private static final Pattern SENTENCE = Pattern.compile("(?:[^.]|\\.\\.|\\.(?![. ]|$))+(?:\\.|$)");

    private final Map<Integer, String> parts = new HashMap<>();
    private final Map<Integer, boolean[]> taken = new HashMap<>();

    Doc() throws IOException {
        String all = Files.readString(PLACE);
        Matcher heads = Pattern.compile("(?m)^## (?:Promise (\\d+):|Not promised).*$").matcher(all);
        int promise = TERMS;
        int begin = 0;
        while (heads.find()) {
            keep(promise, all.substring(begin, heads.start()));
            promise = heads.group(1) == null ? -1 : Integer.parseInt(heads.group(1));
            begin = heads.end();
        }
    }

    private void keep(int promise, String text) {
        String part = text.replaceAll("\\s+", " ").trim();
        parts.put(promise, part);
        taken.put(promise, new boolean[part.length()]);
    }

    /** Why these are not the words of one place there; empty if they are. */
    String take(int promise, String words) {
        String part = parts.getOrDefault(promise, "");
        int place = part.indexOf(words);
        if (place < 0) {
            return "the document doesn't say so there";
        }
        if (part.indexOf(words, place + 1) >= 0) {
            return "the document says so there more than once";
        }
        Arrays.fill(taken.get(promise), place, place + words.length(), true);
        return "";
    }

    /** The first sentence between two places of a promise from which no words were taken; empty if there is none. */
    String left(int promise, String from, String to) {
        String part = parts.getOrDefault(promise, "");
        int begin = part.indexOf(from);
        int end = to.isEmpty() ? part.length() : part.indexOf(to);
        if (begin < 0 || end < begin) {
            return "the document has no such stretch";
        }
        Matcher sentences = SENTENCE.matcher(part);
        sentences.region(begin + from.length(), end);
        while (sentences.find()) {
            String sentence = sentences.group().trim();
            // A section's number is no sentence.
            if (!isTaken(promise, sentences.start(), sentences.end()) && sentence.matches(".*[A-Za-z].*")) {
                return sentence;
            }
        }
        return "";
    }

    private boolean isTaken(int promise, int from, int to) {
        for (int i = from; i < to; i++) {
            if (taken.get(promise)[i]) {
                return true;
            }
        }
        return false;
    }
}
