import java.nio.file.Files;
import java.nio.file.Path;
import java.util.ArrayList;
import java.util.LinkedHashMap;
import java.util.List;
import java.util.Map;
import java.util.regex.Matcher;
import java.util.regex.Pattern;
import java.util.stream.Stream;

/**
 * What the tests quote stands in the document, in the section that they name, and each word of what
 * it is, of the terms and of the promises is quoted by a test named after its section.
 */
final class DocumentTest {
    private static final Path DOCUMENT = Path.of("../shared/DOC.md");
    private static final Path TESTS = Path.of("src/test/java");
    private static final Pattern SECTION = Pattern.compile("String SECTION = \"([^\"]*)\"");
    private static final Pattern QUOTE = Pattern.compile("Check\\.sentence\\(SECTION,\\s*((?:\"[^\"]*\"\\s*\\+?\\s*)+)\\)");
    // Said of calls past the 512th: there is nothing in it that a test could find broken.
    private static final String FREE = "; what later calls answer is free.";

    public static void main(String[] args) throws Exception {
        Map<String, String> sections = sections();
        Map<String, List<String>> quotes = quotes();
        Check.due("sections of promises", sections.size(), 18);
        for (Map.Entry<String, String> section : sections.entrySet()) {
            String rest = section.getValue();
            for (String quote : quotes.getOrDefault(section.getKey(), new ArrayList<>())) {
                Check.due("'" + quote + "' stands in " + section.getKey(), section.getValue().contains(quote), true);
                rest = crossedOut(rest, section.getValue(), quote);
            }
            Check.due("not quoted of " + section.getKey(), rest.replaceAll("[^\\p{Alnum}]+", " ").strip(), "");
        }
        for (String section : quotes.keySet()) {
            Check.due("the document has " + section, sections.containsKey(section), true);
        }
        Check.end("DocumentTest");
    }

    /** What is left to quote: each place where the quote stands is made blank. */
    private static String crossedOut(String rest, String whole, String quote) {
        StringBuilder left = new StringBuilder(rest);
        for (int at = whole.indexOf(quote); at >= 0; at = whole.indexOf(quote, at + 1)) {
            for (int i = at; i < at + quote.length(); i++) {
                left.setCharAt(i, ' ');
            }
        }
        return left.toString();
    }

    /** The sections that are tested, without the lines that name a promise's call. */
    private static Map<String, String> sections() throws Exception {
        Map<String, String> sections = new LinkedHashMap<>();
        for (String part : Files.readString(DOCUMENT).split("(?m)^## ")) {
            int end = part.indexOf('\n');
            String name = part.substring(0, Math.max(end, 0)).strip();
            if (name.equals("What it is") || name.equals("Terms") || name.startsWith("Promise ")) {
                String text = part.substring(end).replaceFirst("(?s)^\\s*`[^`]*`:", "").replace(FREE, "");
                sections.put(name, text.replaceAll("\\s+", " ").strip());
            }
        }
        return sections;
    }

    /** What the tests quote, by sections. */
    private static Map<String, List<String>> quotes() throws Exception {
        Map<String, List<String>> quotes = new LinkedHashMap<>();
        try (Stream<Path> files = Files.list(TESTS)) {
            for (Path file : files.sorted().toList()) {
                String source = Files.readString(file);
                Matcher section = SECTION.matcher(source);
                if (section.find()) {
                    named(file.getFileName().toString(), section.group(1));
                    Matcher quote = QUOTE.matcher(source);
                    while (quote.find()) {
                        String text = quote.group(1).replaceAll("\"\\s*\\+\\s*\"", "").strip();
                        quotes.computeIfAbsent(section.group(1), k -> new ArrayList<>()).add(text.substring(1, text.length() - 1));
                    }
                }
            }
        }
        return quotes;
    }

    private static void named(String file, String section) {
        Matcher promise = Pattern.compile("Promise (\\d+): .*").matcher(section);
        String begins = promise.matches() ? String.format("Promise%02d", Integer.parseInt(promise.group(1)))
                : section.equals("Terms") ? "Terms" : "WhatItIs";
        Check.due(file + " is named after " + section, file.startsWith(begins), true);
    }
}
