/** Runs one test for each sentence of the document, and names every sentence that does not hold. */
final class Sentences {
    /** The test of one sentence. */
    interface Test {
        void run(Check check);
    }

    private int tested = 0;
    private int broken = 0;

    void test(String place, String sentence, Test test) {
        Check check = new Check();
        test.run(check);
        tested++;
        if (!check.passed()) {
            broken++;
            System.out.println("BROKEN: " + place + ": " + sentence);
        }
    }

    void end() {
        System.out.println(tested + " sentences tested, " + broken + " broken");
        if (tested == 0 || broken != 0) {
            System.exit(1);
        }
    }
}
