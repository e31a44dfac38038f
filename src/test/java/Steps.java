import java.util.ArrayList;
import java.util.List;

/** Rows of steps for Runner. */
final class Steps {
    private Steps() {
    }

    /** The step once for each word, which stands in the place of the #. */
    static String[] each(String step, String... words) {
        List<String> steps = new ArrayList<>();
        for (String word : words) {
            steps.add(step.replace("#", word));
        }
        return steps.toArray(new String[0]);
    }
}
