/** Runs one test for each sentence of the document, and names every sentence that does not hold. */
final class Sentences {
    /** The test of one sentence. */
    interface Test {
        void run(Check check);
    }

    private int tested = 0;
    private int broken = 0;

    void test(String place, String sentence, Test test) {
        tested++;
        if (!holds(test)) {
            broken++;
            System.out.println("BROKEN: " + place + ": " + sentence);
        }
    }

    /** No call may throw: one that does breaks the sentence, and the other sentences are tested all the same. */
    private static boolean holds(Test test) {
        Check check = new Check();
        try {
            test.run(check);
        } catch (RuntimeException thrown) {
            thrown.printStackTrace(System.out);
            return false;
        }
        return check.passed();
    }

    void end() {
        System.out.println(tested + " sentences tested, " + broken + " broken");
        if (tested == 0 || broken != 0) {
            System.exit(1);
        }
    }
}
