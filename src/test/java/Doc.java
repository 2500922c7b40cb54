import java.io.IOException;
import java.nio.file.Files;
import java.nio.file.Path;
import java.util.Arrays;
import java.util.HashMap;
import java.util.Map;
import java.util.regex.Matcher;
import java.util.regex.Pattern;

/** The document by its promises, and which of its sentences have had a boundary's words taken from them. */
final class Doc {
    private static final Path PLACE = Path.of("../shared/DOC.md");
    /** Stands for all that the document says ahead of promise 1. */
    static final int TERMS = 0;
    // The dots of "0, 1, .." end no sentence.
    private static final Pattern SENTENCE = Pattern.compile("(?:[^.]|\\.\\.|\\.(?![. ]|$))+(?:\\.|$)");

    private static final Pattern BOUNDARY = Pattern.compile(
        "\\b(?:at most|at first|least|latest|never|else|above|below|first|nobody|nothing|none|\\d+ to \\d+)\\b");

    private final Map<Integer, String> parts = new HashMap<>();
    private final Map<Integer, boolean[]> taken = new HashMap<>();
    private final boolean isThere;

    Doc() throws IOException {
        // Without the document the boundaries are held all the same, only their words are not.
        isThere = Files.isReadable(PLACE);
        if (!isThere) {
            System.out.println(PLACE + " is not there: no quotation is looked up");
            return;
        }
        String all = Files.readString(PLACE);
        Matcher heads = Pattern.compile("(?m)^## (?:Promise (\\d+):|Not promised).*$").matcher(all);
        int promise = TERMS;
        int begin = 0;
        while (heads.find()) {
            keep(promise, all.substring(begin, heads.start()));
            promise = heads.group(1) == null ? -1 : Integer.parseInt(heads.group(1));
            begin = heads.end();
        }
    }

    private void keep(int promise, String text) {
        String part = text.replaceAll("\\s+", " ").trim();
        parts.put(promise, part);
        taken.put(promise, new boolean[part.length()]);
    }

    /** Why these are not the words of one place there; empty if they are. */
    String take(int promise, String words) {
        if (!isThere) {
            return "";
        }
        String part = parts.getOrDefault(promise, "");
        int place = part.indexOf(words);
        if (place < 0) {
            return "the document doesn't say so there";
        }
        if (part.indexOf(words, place + 1) >= 0) {
            return "the document says so there more than once";
        }
        Arrays.fill(taken.get(promise), place, place + words.length(), true);
        return "";
    }

    /** The first sentence, or boundary's word, between two places of a promise that was not taken; empty if there is none. */
    String left(int promise, String from, String to) {
        if (!isThere) {
            return "";
        }
        String part = parts.getOrDefault(promise, "");
        int begin = part.indexOf(from);
        int end = to.isEmpty() ? part.length() : part.indexOf(to);
        if (begin < 0 || end < begin) {
            return "the document has no such stretch";
        }
        String sentence = left(promise, SENTENCE.matcher(part).region(begin + from.length(), end));
        return sentence.isEmpty() ? left(promise, BOUNDARY.matcher(part).region(begin + from.length(), end)) : sentence;
    }

    private String left(int promise, Matcher places) {
        while (places.find()) {
            // A section's number is no sentence.
            if (!isTaken(promise, places.start(), places.end()) && places.group().matches(".*[A-Za-z].*")) {
                return parts.get(promise).substring(Math.max(0, places.start() - 25), places.end());
            }
        }
        return "";
    }

    private boolean isTaken(int promise, int from, int to) {
        for (int i = from; i < to; i++) {
            if (taken.get(promise)[i]) {
                return true;
            }
        }
        return false;
    }
}
