import java.util.function.Consumer;
import java.util.function.Supplier;

/** Collects what is not as due in one test, and ends it with exit code 1 if there was something. */
final class Expect {
    /** Of what is wrong with one sentence: a few are enough to see it, and leave room for the other sentences. */
    private static final int MOST_TOLD = 5;

    /** Far more than any test takes. */
    private static final long MOST_SECONDS = 120;

    private int asked = 0;
    private int wrong = 0;
    private int wrongOfSentence = 0;
    private String named = "";

    Expect() {
        Thread watch = new Thread(Expect::endWhenTooLong);
        watch.setDaemon(true);
        watch.start();
    }

    /** A call that does not end is a fault, too: the test then fails instead of waiting for it. */
    private static void endWhenTooLong() {
        try {
            Thread.sleep(MOST_SECONDS * 1000);
        } catch (InterruptedException e) {
            return;
        }
        System.out.println("a call does not end");
        Runtime.getRuntime().halt(1);
    }

    /** A part of a test. */
    interface Part {
        void test(Expect expect);
    }

    /** Tests what a sentence says; its words must stand in that section of the document. */
    void sentence(String section, String words, Part... parts) {
        named = section + ", \"" + words + "\": ";
        wrongOfSentence = 0;
        if (!Document.says(section, words)) {
            tell("the document does not say so");
        }
        for (Part part : parts) {
            int askedBefore = asked;
            run(part);
            if (asked == askedBefore) {
                tell("nothing was asked about it");
            }
        }
        named = "";
        wrongOfSentence = 0;
    }

    /** An exception that is not due ends its part of the test, so that the sentences behind it are tested, too. */
    private void run(Part part) {
        try {
            part.test(this);
        } catch (RuntimeException | AssertionError e) {
            tell("throws " + e + " at " + e.getStackTrace()[0]);
        }
    }

    void equal(String what, long got, long due) {
        asked++;
        if (got != due) {
            tell(what + " answered " + got + ", due is " + due);
        }
    }

    void equal(String what, boolean got, boolean due) {
        equal(what, got ? 1 : 0, due ? 1 : 0);
    }

    void same(String what, String got, String due) {
        asked++;
        if (!got.equals(due)) {
            tell(what + "\n  is     " + got + "\n  due is " + due);
        }
    }

    /** That a call throws just that exception, and that nothing is or becomes other by the call. */
    void refused(String what, Class<? extends Exception> due, Supplier<SixWayGas> maker, Consumer<SixWayGas> call) {
        SixWayGas called = maker.get();
        SixWayGas twin = maker.get();
        same(what + " throws", thrown(called, call), due.getSimpleName());
        same(what + ": the state behind it", State.of(called), State.of(twin));
        // Seed, mass and rates can't be read: they show in what steps do.
        called.step(5);
        twin.step(5);
        same(what + ": the state five steps later", State.of(called), State.of(twin));
    }

    void end() {
        System.out.println(wrong == 0 ? asked + " answers are as due" : wrong + " of " + asked + " are not as due");
        if (wrong != 0) {
            System.exit(1);
        }
    }

    private static String thrown(SixWayGas gas, Consumer<SixWayGas> call) {
        try {
            call.accept(gas);
            return "nothing";
        } catch (RuntimeException e) {
            return e.getClass().getSimpleName();
        }
    }

    private void tell(String text) {
        wrong++;
        wrongOfSentence++;
        if (wrongOfSentence <= MOST_TOLD) {
            System.out.println(named + text);
        }
    }
}
