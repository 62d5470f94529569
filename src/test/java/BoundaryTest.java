import java.io.IOException;
import java.lang.reflect.Method;
import java.util.Arrays;
import java.util.Comparator;
import java.util.LinkedHashSet;
import java.util.List;
import java.util.Set;

/**
 * Runs the tests of the boundary cases, and looks whether each sentence that one of them names
 * stands in the document, and whether each sentence of the document is named by one of them.
 */
public final class BoundaryTest {
    // These sentences lead to others, or tell what the interface's headings are.
    private static final List<String> WITHOUT_A_TEST = List.of("What it is: A small store",
            "Terms, deleting: Then it is looked whether", "Terms, deleting: If the parent of such a row",
            "Terms, errors: Ahead of the calls");

    private final Check check = new Check();
    private final Set<String> sentences;
    private final Set<String> named = new LinkedHashSet<>();

    private BoundaryTest(Set<String> sentences) {
        this.sentences = sentences;
    }

    public static void main(String[] args) throws IOException, ReflectiveOperationException {
        BoundaryTest test = new BoundaryTest(Document.sentences());
        Check check = test.check;
        Boundaries[] parts = {new TableBoundaries(check), new RowBoundaries(check), new DeleteBoundaries(check),
            new StatementBoundaries(check), new HistoryBoundaries(check), new ErrorBoundaries(check),
            new QuestionBoundaries(check), new ForecastBoundaries(check)};
        for (Boundaries part : parts) {
            test.runAll(part);
        }
        test.lookForOthers();
        check.end();
    }

    private void runAll(Boundaries part) throws ReflectiveOperationException {
        Method[] methods = part.getClass().getDeclaredMethods();
        Arrays.sort(methods, Comparator.comparing(Method::getName));
        for (Method method : methods) {
            Holds holds = method.getAnnotation(Holds.class);
            if (holds != null) {
                run(part, method, holds.value());
            }
        }
    }

    private void run(Boundaries part, Method method, String[] holds) throws ReflectiveOperationException {
        check.at(part.getClass().getName() + "." + method.getName() + " (" + String.join(" | ", holds) + ")");
        for (String sentence : holds) {
            check.holds("the document does not say «" + sentence + "»", sentences.contains(sentence));
            named.add(sentence);
        }
        int asked = check.asked();
        method.invoke(part);
        check.holds("asks nothing", check.asked() > asked);
    }

    private void lookForOthers() {
        check.at("the document");
        for (String sentence : sentences) {
            boolean needsNone = WITHOUT_A_TEST.stream().anyMatch(sentence::startsWith);
            check.holds("no test for «" + sentence + "»", needsNone || named.contains(sentence));
        }
    }
}
