import java.util.List;

/**
 * Runs tests of single sentences of the document. Beside each stand breakages, each a store made to
 * break that sentence: the test has to pass with CowTreeStore as it is, and to fail with each of
 * them, so that no test is there which could not fail.
 */
final class Edges {
    private static final int MILLISECONDS = 60_000;
    private static final int MILLISECONDS_BROKEN = 2_000;

    interface Test {
        void run(Edge e);
    }

    private int tests = 0;
    private int breakages = 0;
    private int wrong = 0;

    void edge(String sentence, Test test, Edge.Maker... broken) {
        tests++;
        for (String what : wrongWith(Calls::new, test, MILLISECONDS)) {
            complain(sentence, what);
        }
        if (broken.length == 0) {
            complain(sentence, "no breakage stands beside this test");
        }
        for (int i = 0; i < broken.length; i++) {
            breakages++;
            if (wrongWith(broken[i], test, MILLISECONDS_BROKEN).isEmpty()) {
                complain(sentence, "the test does not notice breakage " + (i + 1));
            }
        }
    }

    private void complain(String sentence, String what) {
        wrong++;
        System.out.println(sentence + " | " + what);
    }

    /** In a thread of its own, since a call that never ends must not keep the test from ending. */
    private static List<String> wrongWith(Edge.Maker maker, Test test, int milliseconds) {
        Edge e = new Edge(maker);
        Thread run = new Thread(() -> runOnce(test, e));
        run.setDaemon(true);
        run.start();
        try {
            run.join(milliseconds);
        } catch (InterruptedException stop) {
            e.say("the test was interrupted");
        }
        if (run.isAlive()) {
            e.say("a call does not end");
        }
        return e.wrong();
    }

    private static void runOnce(Test test, Edge e) {
        try {
            test.run(e);
        } catch (Throwable thrown) {
            e.say("a call threw " + thrown);
        }
    }

    void end() {
        System.out.println(tests + " sentences, " + breakages + " breakages: "
            + (wrong == 0 ? "all is as due" : wrong + " things are not as due"));
        System.exit(wrong == 0 ? 0 : 1);
    }
}
