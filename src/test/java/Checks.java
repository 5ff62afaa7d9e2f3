/** Counts what was checked, prints what is not as it is due, and ends the test with its exit code. */
class Checks {
    private String under = "";
    private int checked = 0;
    private int wrong = 0;

    /** What the messages of the checks that follow begin with. */
    void under(String words) {
        under = words;
    }

    int checked() {
        return checked;
    }

    void due(String call, Object got, Object want) {
        checked++;
        if (!got.equals(want)) {
            wrong++;
            System.out.println(under + call + " answered " + got + ", due is " + want);
        }
    }

    void illegalArgument(String call, Runnable run) {
        due(call, thrownBy(run), IllegalArgumentException.class.getName());
    }

    void illegalState(String call, Runnable run) {
        due(call, thrownBy(run), IllegalStateException.class.getName());
    }

    static String thrownBy(Runnable run) {
        try {
            run.run();
            return "nothing";
        } catch (RuntimeException e) {
            return e.getClass().getName();
        }
    }

    void end(String test) {
        System.out.println(test + ": " + checked + " checks, " + wrong + " wrong");
        System.exit(wrong == 0 && checked > 0 ? 0 : 1);
    }
}
