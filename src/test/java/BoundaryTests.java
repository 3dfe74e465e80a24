import java.io.IOException;
import java.lang.reflect.InvocationTargetException;
import java.lang.reflect.Method;
import java.nio.file.Path;
import java.util.List;

/**
 * A test for each sentence of the document that names a boundary case, named by its heading and its words (see Said).
 * Beside the answers that the tests ask for, each refused call must change nothing but status(), each test must check
 * something, each quoted sentence must stand in the document, and each sentence of the terms and the promises be quoted.
 */
public final class BoundaryTests {
    private static final Path DOCUMENT = Path.of("../shared/DOC.md");
    private static final List<Class<? extends Boundary>> GROUPS = List.of(BoundaryTerms.class, BoundarySigns.class, BoundaryStores.class, BoundaryShapes.class,
        BoundaryAnswers.class, BoundaryForms.class, BoundaryNumbers.class, BoundarySheets.class, BoundaryPiles.class);

    public static void main(String[] args) throws IOException, ReflectiveOperationException {
        Document document = new Document(DOCUMENT);
        int tests = 0;
        int checks = 0;
        int wrong = 0;
        for (Class<? extends Boundary> group : GROUPS) {
            for (Method test : group.getDeclaredMethods()) {
                Said said = test.getAnnotation(Said.class);
                if (said != null) {
                    run(group, test);
                    if (!document.quote(said.where(), said.words())) {
                        Run.FAULTS.add("the document has no such sentence");
                    }
                    for (String fault : Run.FAULTS) {
                        System.out.println(group.getName() + "." + test.getName() + ", " + said.where() + ": \""
                            + said.words() + "\": " + fault);
                    }
                    tests++;
                    checks += Run.checks;
                    wrong += Run.FAULTS.size();
                }
            }
        }
        for (String left : document.notQuoted()) {
            System.out.println("no test quotes " + left);
            wrong++;
        }
        System.out.println(tests + " tests of sentences, " + checks + " checks, " + wrong + " wrong");
        if (wrong != 0) {
            System.exit(1);
        }
    }

    private static void run(Class<? extends Boundary> group, Method test) throws ReflectiveOperationException {
        Run.MADE.clear();
        Run.FAULTS.clear();
        Run.checks = 0;
        try {
            test.invoke(group.getDeclaredConstructor().newInstance());
            for (Run run : List.copyOf(Run.MADE)) {
                run.judgeRefusals();
            }
        } catch (InvocationTargetException thrown) {
            Run.FAULTS.add("ended by " + thrown.getCause());
        } catch (IllegalStateException broken) {
            Run.FAULTS.add("ended by " + broken);
        }
        if (Run.checks == 0) {
            Run.FAULTS.add("checks nothing");
        }
    }
}
