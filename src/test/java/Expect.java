import java.util.function.Consumer;
import java.util.function.Supplier;

/** Collects what is not as due in one test, and ends it with exit code 1 if there was something. */
final class Expect {
    private int asked = 0;
    private int wrong = 0;
    private String named = "";
    private int askedBeforeNamed = -1;

    /** Names the words of the document that the next answers are about; they must stand in that section. */
    void sentence(String section, String words) {
        endSentence();
        named = section + ", \"" + words + "\": ";
        askedBeforeNamed = asked;
        if (!Document.says(section, words)) {
            tell("the document does not say so");
        }
    }

    void equal(String what, long got, long due) {
        asked++;
        if (got != due) {
            tell(what + " answered " + got + ", due is " + due);
        }
    }

    void equal(String what, boolean got, boolean due) {
        equal(what, got ? 1 : 0, due ? 1 : 0);
    }

    void same(String what, String got, String due) {
        asked++;
        if (!got.equals(due)) {
            tell(what + "\n  is     " + got + "\n  due is " + due);
        }
    }

    /** That a call throws just that exception, and that nothing is or becomes other by the call. */
    void refused(String what, Class<? extends Exception> due, Supplier<SixWayGas> maker, Consumer<SixWayGas> call) {
        SixWayGas called = maker.get();
        SixWayGas twin = maker.get();
        same(what + " throws", thrown(called, call), due.getSimpleName());
        same(what + ": the state behind it", State.of(called), State.of(twin));
        // Seed, mass and rates can't be read: they show in what steps do.
        called.step(5);
        twin.step(5);
        same(what + ": the state five steps later", State.of(called), State.of(twin));
    }

    void end() {
        endSentence();
        System.out.println(wrong == 0 ? asked + " answers are as due" : wrong + " of " + asked + " are not as due");
        if (wrong != 0) {
            System.exit(1);
        }
    }

    private void endSentence() {
        if (asked == askedBeforeNamed) {
            tell("nothing was asked about it");
        }
    }

    private static String thrown(SixWayGas gas, Consumer<SixWayGas> call) {
        try {
            call.accept(gas);
            return "nothing";
        } catch (RuntimeException e) {
            return e.getClass().getSimpleName();
        }
    }

    private void tell(String text) {
        wrong++;
        if (wrong <= 20) {
            System.out.println(named + text);
        }
    }
}
