import java.util.function.Consumer;

/** Runs one test for each sentence of the document and tells which sentences don't hold. */
final class Sentences {
    private int all = 0;
    private int broken = 0;

    void holds(String sentence, Consumer<Check> test) {
        Check check = new Check();
        all++;
        if (!runs(test, check) || !check.allAsDue()) {
            broken++;
            System.out.println("BROKEN: " + sentence);
        }
    }

    // Without this, a call that throws would hide what the sentences after it have to tell.
    private static boolean runs(Consumer<Check> test, Check check) {
        try {
            test.accept(check);
            return true;
        } catch (RuntimeException thrown) {
            thrown.printStackTrace(System.out);
            return false;
        }
    }

    void finish() {
        System.out.println(broken + " of " + all + " sentences are broken");
        if (broken != 0) {
            System.exit(1);
        }
    }
}
