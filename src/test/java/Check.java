/** Counts what is not as it is due, and ends a test's program with exit code 1 if anything was not. */
final class Check {
    private static int checked = 0;
    private static int wrong = 0;

    interface Call {
        void run();
    }

    private Check() {
    }

    static void same(String what, long due, long got) {
        checked++;
        if (due != got) {
            tell(what + " answered " + got + ", due is " + due);
        }
    }

    static void same(String what, boolean due, boolean got) {
        same(what, due ? 1 : 0, got ? 1 : 0);
    }

    static void same(String what, double due, double got) {
        checked++;
        if (due != got) {
            tell(what + " answered " + got + ", due is " + due);
        }
    }

    static void same(String what, String due, String got) {
        checked++;
        if (!due.equals(got)) {
            tell(what + " answered " + got + ", due is " + due);
        }
    }

    static void isThrown(String what, Class<? extends RuntimeException> due, Call call) {
        checked++;
        try {
            call.run();
            tell(what + " threw nothing, due is " + due.getSimpleName());
        } catch (RuntimeException e) {
            if (e.getClass() != due) {
                tell(what + " threw " + e + ", due is " + due.getSimpleName());
            }
        }
    }

    /** As isThrown, and the object must answer as before: a method that throws changes nothing. */
    static void isThrown(String what, Class<? extends RuntimeException> due, ChangeUntangler x, Call call) {
        long before = x.digest();
        isThrown(what, due, call);
        same("digest after " + what, before, x.digest());
    }

    static int wrong() {
        return wrong;
    }

    static void tell(String text) {
        wrong++;
        if (wrong <= 30) {
            System.out.println(text);
        }
    }

    static void end() {
        System.out.println(checked + " answers looked at, " + wrong + " not as due");
        if (wrong > 0 || checked == 0) {
            System.exit(1);
        }
    }
}
