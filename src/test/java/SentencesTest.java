import java.io.IOException;
import java.lang.reflect.InvocationTargetException;
import java.lang.reflect.Method;
import java.nio.file.Files;
import java.nio.file.Path;
import java.util.ArrayList;
import java.util.Comparator;
import java.util.List;

/**
 * Runs each test that bears @Of. The words it names must stand in the document, and all words of the
 * document, from its Terms on, must be named by some test.
 */
public final class SentencesTest {
    private static final Path DOCUMENT = Path.of("../shared/DOC.md");
    private static final Class<?>[] PARTS = {TermsSentences.class, TextSentences.class, ActsSentences.class,
        TreeSentences.class, ForesightSentences.class, KeptSentences.class};

    private SentencesTest() {
    }

    public static void main(String[] args) throws IOException {
        Document document = Files.exists(DOCUMENT) ? new Document(DOCUMENT) : null;
        if (document == null) {
            System.out.println("SentencesTest: no " + DOCUMENT + " here, so what the tests name is not looked up");
        }
        for (Class<?> part : PARTS) {
            for (Method test : testsOf(part)) {
                run(test, document);
            }
        }
        if (document != null) {
            for (int promise = 0; promise <= Document.PROMISES; promise++) {
                Check.due("promise " + promise + ": words without a test", document.unnamed(promise).toString(), "[]");
            }
        }
        Check.close("SentencesTest");
    }

    private static List<Method> testsOf(Class<?> part) {
        List<Method> tests = new ArrayList<>();
        for (Method method : part.getDeclaredMethods()) {
            if (method.getAnnotationsByType(Of.class).length > 0) {
                tests.add(method);
            }
        }
        tests.sort(Comparator.comparing(Method::getName));
        return tests;
    }

    private static void run(Method test, Document document) {
        StringBuilder about = new StringBuilder();
        for (Of of : test.getAnnotationsByType(Of.class)) {
            about.append("promise ").append(of.promise()).append(", '").append(of.says()).append("', ");
            if (document != null && !document.name(of.promise(), of.says())) {
                Check.fail("promise " + of.promise() + " has no words '" + of.says() + "'");
            }
        }
        Check.about(about + test.getName() + "(): ");
        int before = Check.checks();
        try {
            test.invoke(null);
        } catch (InvocationTargetException e) {
            Check.fail("it threw " + e.getCause());
        } catch (IllegalAccessException e) {
            Check.fail("it can't be called");
        }
        Check.due("it checks something", Check.checks() > before, true);
        Check.about("");
    }
}
