/**
 * Sentences of the document that name a boundary case, each with a test of its own. What stands in
 * square brackets is left out, or says which case of the sentence is meant. A broken sentence is
 * told with the place where it stands.
 */
final class Sentences {
    interface Test {
        void run(Check check);
    }

    private int broken = 0;

    void holds(String place, String words, Test test) {
        Check check = new Check();
        try {
            test.run(check);
        } catch (RuntimeException e) {
            check.tell("a call that is due to answer throws " + e);
        }
        if (check.wrong() != 0) {
            broken++;
            System.out.println("broken: " + place + ": " + words);
        }
    }

    void end() {
        if (broken != 0) {
            System.out.println(broken + " sentences are broken");
            System.exit(1);
        }
    }
}
