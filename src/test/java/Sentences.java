import java.io.IOException;
import java.nio.file.DirectoryStream;
import java.nio.file.Files;
import java.nio.file.Path;
import java.util.ArrayList;
import java.util.LinkedHashMap;
import java.util.List;
import java.util.Map;
import java.util.regex.Matcher;
import java.util.regex.Pattern;

/**
 * No test, but a look at the tests of boundary cases: which words that they quote do not stand in the document, and
 * which of its sentences none of them quotes. Run by hand from the project's folder; CI asks nothing of it.
 */
final class Sentences {
    private static final Pattern QUOTES = Pattern.compile("Expect\\.sentence\\(((?:\\s*\"(?:\\\\.|[^\"\\\\])*\",?)+)\\)");
    private static final Pattern STRING = Pattern.compile("\"((?:\\\\.|[^\"\\\\])*)\"");
    private static final Pattern TERM = Pattern.compile("[A-Z][A-Z ]{3,}");

    private Sentences() {
    }

    public static void main(String[] args) throws IOException {
        Map<String, String> places = places(Files.readAllLines(Path.of("../shared/DOC.md")));
        Map<String, List<String>> quotes = new LinkedHashMap<>();
        try (DirectoryStream<Path> files = Files.newDirectoryStream(Path.of("src/test/java"), "*BoundsTest.java")) {
            for (Path file : files) {
                readQuotes(Files.readString(file), quotes);
            }
        }
        for (Map.Entry<String, List<String>> told : quotes.entrySet()) {
            for (String quote : told.getValue()) {
                if (!places.getOrDefault(told.getKey(), "").contains(quote)) {
                    System.out.println("not in the document: " + told.getKey() + ": " + quote);
                }
            }
        }
        places.keySet().removeAll(List.of("", "The public face", "Not promised"));
        for (Map.Entry<String, String> place : places.entrySet()) {
            for (String sentence : place.getValue().split("\n|(?<=\\.) ")) {
                if (!sentence.isBlank() && !isQuoted(sentence, quotes.getOrDefault(place.getKey(), List.of()))) {
                    System.out.println("without a test: " + place.getKey() + ": " + sentence);
                }
            }
        }
    }

    /** The document's text by its promises, terms and other headings. */
    private static Map<String, String> places(List<String> lines) {
        Map<String, String> places = new LinkedHashMap<>();
        String place = "";
        for (String line : lines) {
            if (line.startsWith("## ")) {
                String heading = line.substring(3);
                place = heading.startsWith("Promise") ? heading.substring(0, heading.indexOf(':')) : heading;
            } else if (TERM.matcher(line).matches()) {
                place = line;
            } else {
                places.merge(place, line + "\n", String::concat);
            }
        }
        return places;
    }

    private static void readQuotes(String source, Map<String, List<String>> quotes) {
        Matcher call = QUOTES.matcher(source);
        while (call.find()) {
            List<String> told = new ArrayList<>();
            Matcher string = STRING.matcher(call.group(1));
            while (string.find()) {
                told.add(string.group(1).replace("\\\"", "\""));
            }
            quotes.computeIfAbsent(told.get(0), place -> new ArrayList<>()).addAll(told.subList(1, told.size()));
        }
    }

    private static boolean isQuoted(String sentence, List<String> quotes) {
        for (String quote : quotes) {
            if (quote.contains(sentence) || sentence.contains(quote)) {
                return true;
            }
        }
        return false;
    }
}
