import java.util.function.Consumer;

/** One test for each sentence of the document: tells the sentences that don't hold, and then ends with exit code 1. */
final class Sentences {
    private int told = 0;
    private int broken = 0;

    void test(String where, String sentence, Consumer<Checks> test) {
        told++;
        Checks checks = new Checks();
        try {
            test.accept(checks);
        } catch (RuntimeException e) {
            checks.due("a call that threw " + e, 1, 0);
        }
        if (!checks.allAsDue()) {
            broken++;
            System.out.println("NOT HELD: " + where + ": " + sentence);
        }
    }

    void end() {
        System.out.println(told + " sentences, " + broken + " not held");
        if (broken != 0 || told == 0) {
            System.exit(1);
        }
    }
}
