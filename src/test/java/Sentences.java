import java.io.IOException;
import java.nio.file.Files;
import java.nio.file.Path;
import java.util.ArrayList;
import java.util.LinkedHashMap;
import java.util.List;
import java.util.Map;

/**
 * Tests that are named by the place and the words of the document's sentence that they hold: the words must stand in
 * the document, and each of its sentences must have a test, but for the face's (see FaceTest) and what is not promised.
 */
final class Sentences {
    private static final Path DOCUMENT = Path.of("../shared/DOC.md");
    private static final String SIGNATURE = "(int |boolean |)\\w+\\([^)]*\\)( throws [\\w, ]+)?: ";

    private final Check check;
    private final Map<String, String> places = new LinkedHashMap<>();
    private final Map<String, List<String>> held = new LinkedHashMap<>();
    private String place = "";

    Sentences(Check check) throws IOException {
        this.check = check;
        read();
    }

    /** The place of the sentences that follow: a promise, or one of the terms' headings. */
    void in(String newPlace) {
        place = newPlace;
        held.putIfAbsent(place, new ArrayList<>());
    }

    /** Steps are texts (see Runner) or rows of them. */
    void holds(String words, Object... steps) {
        check.under("[" + place + ": " + words + "] ");
        held.get(place).add(words);
        if (!places.isEmpty() && !places.getOrDefault(place, "").contains(words)) {
            check.report("these words do not stand in the document");
        }
        Runner runner = new Runner(check);
        for (Object step : steps) {
            if (step instanceof String[]) {
                for (String one : (String[]) step) {
                    runner.step(one);
                }
            } else {
                runner.step((String) step);
            }
        }
        check.under("");
    }

    /** Reports what stands in the document and is held by no test. */
    void checkNothingIsLeftOver() {
        for (Map.Entry<String, String> one : places.entrySet()) {
            String left = one.getValue();
            StringBuilder marked = new StringBuilder(left);
            for (String words : held.getOrDefault(one.getKey(), List.of())) {
                for (int at = left.indexOf(words); at >= 0; at = left.indexOf(words, at + 1)) {
                    for (int i = at; i < at + words.length(); i++) {
                        marked.setCharAt(i, ' ');
                    }
                }
            }
            if (marked.toString().matches("(?s).*\\w.*")) {
                check.report(one.getKey() + ": no test holds: " + marked.toString().replaceAll("\\s+", " "));
            }
        }
    }

    /** The terms part at headings that are written in capitals, and where the face is told once more. */
    private void read() throws IOException {
        if (!Files.exists(DOCUMENT)) {
            System.out.println("there is no " + DOCUMENT + ": the tests run, but their words are compared with nothing");
            return;
        }
        String heading = "";
        for (String line : Files.readString(DOCUMENT).split("\n")) {
            String folded = line.replace("`", "").replaceFirst("^- ", "").replaceAll("\\s+", " ").trim();
            if (folded.startsWith("## ")) {
                heading = folded.substring(3).replaceFirst(":.*", "");
            } else if (heading.isEmpty() || heading.startsWith("The public") || heading.startsWith("Not")) {
                continue;
            } else if (heading.startsWith("Term") && folded.matches("[A-Z ]{4,}")) {
                heading = "Terms, " + folded;
            } else {
                if (folded.startsWith("The constants:")) {
                    heading = "Terms, the face";
                }
                places.merge(heading, folded.replaceFirst("^" + SIGNATURE, ""), (a, b) -> (a + " " + b).trim());
            }
        }
    }
}
