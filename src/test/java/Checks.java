/** Counts what is not as due, prints it, and ends a test with exit code 1 if there was any. */
final class Checks {
    /** Numbers that no range of the document holds, most of them 0 if their highest bits are lost. */
    static final int[] FAR = {
        Integer.MIN_VALUE, Integer.MAX_VALUE, Integer.MIN_VALUE + 1, -65536, -256, -2, 65536, 1 << 24,
    };

    private int made = 0;
    private int wrong = 0;
    private String sentence = "";

    /** The sentence of the document that the checks behind this call are of. */
    void sentence(String text) {
        sentence = "[" + text + "] ";
    }

    void same(String what, long got, long due) {
        made++;
        if (got != due) {
            report(what + " answered " + got + ", due is " + due);
        }
    }

    void same(String what, String got, String due) {
        made++;
        if (!got.equals(due)) {
            report(what + " answered " + got + ", due is " + due);
        }
    }

    void illegalArgument(String what, Runnable call) {
        throwing(what, IllegalArgumentException.class, call);
    }

    void illegalState(String what, Runnable call) {
        throwing(what, IllegalStateException.class, call);
    }

    void unsupported(String what, Runnable call) {
        throwing(what, UnsupportedOperationException.class, call);
    }

    void throwing(String what, Class<? extends RuntimeException> due, Runnable call) {
        made++;
        try {
            call.run();
            report(what + " threw nothing, due is " + due.getSimpleName());
        } catch (RuntimeException e) {
            if (e.getClass() != due) {
                report(what + " threw " + e.getClass().getSimpleName() + ", due is " + due.getSimpleName());
            }
        }
    }

    private void report(String text) {
        wrong++;
        System.out.println(sentence + text);
    }

    void finish() {
        System.out.println(made + " checks, " + wrong + " not as due");
        if (made == 0 || wrong != 0) {
            System.exit(1);
        }
    }
}
