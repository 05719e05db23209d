/** Counts the answers that are not as due, and ends the test with 1 if there was one. */
final class Checks {
    private static int checked = 0;
    private static int wrong = 0;

    private Checks() {
    }

    interface Call {
        void run();
    }

    static void due(String what, long got, long want) {
        checked++;
        if (got != want) {
            wrong++;
            System.out.println(what + " answered " + got + ", due is " + want);
        }
    }

    /** The bits are compared, so that -0.0 is not 0.0. */
    static void dueDouble(String what, double got, double want) {
        checked++;
        if (Double.doubleToLongBits(got) != Double.doubleToLongBits(want)) {
            wrong++;
            System.out.println(what + " answered " + got + ", due is " + want);
        }
    }

    static void dueTrue(String what, boolean got) {
        due(what, got ? 1 : 0, 1);
    }

    /** The class itself is due: a subclass would be the machine's own exception. */
    static void dueThrow(String what, Class<? extends RuntimeException> want, Call call) {
        checked++;
        Class<?> got = null;
        try {
            call.run();
        } catch (RuntimeException e) {
            got = e.getClass();
        }
        if (got != want) {
            wrong++;
            System.out.println(what + " threw " + got + ", due is " + want);
        }
    }

    /** The call throws, and changes nothing that the digest tells. */
    static void dueRefusal(BentScope scope, String what, Class<? extends RuntimeException> want,
            Call call) {
        long before = scope.digest();
        dueThrow(what, want, call);
        due(what + " changed the state", scope.digest(), before);
    }

    /** The call saves one state, and an undo leads back to before it. */
    static void dueUndoable(BentScope scope, String what, Call call) {
        long before = scope.digest();
        int saved = savedStates(scope);
        call.run();
        due(what + ": saved states", savedStates(scope), saved + 1);
        scope.undo();
        due(what + ": undone", scope.digest(), before);
    }

    /** For fewer than 4 saved states: one more is made and undone to count them. */
    static int savedStates(BentScope scope) {
        scope.set(0, scope.setting(0));
        return scope.undo();
    }

    static void append(BentScope scope, String text) {
        for (int i = 0; i < text.length(); i++) {
            scope.append(text.charAt(i));
        }
    }

    static int carryOut(BentScope scope, String text) {
        scope.clearText();
        append(scope, text);
        return scope.carryOut();
    }

    static void dueValues(BentScope scope, String when, int... want) {
        for (int what = 0; what < want.length; what++) {
            due(when + ": value(" + what + ")", scope.value(what), want[what]);
        }
    }

    static void finish(String test) {
        System.out.println(test + ": " + checked + " checks, " + wrong + " wrong");
        if (wrong != 0 || checked == 0) {
            System.exit(1);
        }
    }
}
