/** Counts the answers that are not as due, and ends a test by that. */
final class Verdict {
    private int wrong;

    void due(String what, int got, int want) {
        if (got != want) {
            wrong++;
            System.out.println(what + " answered " + got + ", due is " + want);
        }
    }

    /** One answer for each question, in their order. */
    void dueAll(String what, int[] got, int... want) {
        if (!java.util.Arrays.equals(got, want)) {
            wrong++;
            System.out.println(what + " answered " + java.util.Arrays.toString(got)
                    + ", due is " + java.util.Arrays.toString(want));
        }
    }

    void due(String what, String got, String want) {
        if (!got.equals(want)) {
            wrong++;
            System.out.println(what + " is " + got + ", due is " + want);
        }
    }

    /** The call is refused with this answer, and all that can be seen is as it was. */
    void refused(String what, Replay run, Replay.Call call, int want) {
        due(what, run.ask(call), want);
        if (!run.copy().then(call).state().equals(run.state())) {
            wrong++;
            System.out.println(what + " was refused, but changed something");
        }
    }

    /** The call is taken with this answer, and is part of the run from now on. */
    void taken(String what, Replay run, Replay.Call call, int want) {
        due(what, run.ask(call), want);
        run.then(call);
    }

    void same(String what, Replay one, Replay other) {
        due(what, one.state().equals(other.state()) ? 1 : 0, 1);
    }

    void end() {
        System.out.println(wrong == 0 ? "all answers are as due" : wrong + " answers are not as due");
        if (wrong != 0) {
            System.exit(1);
        }
    }
}
