import java.util.ArrayList;
import java.util.List;
import java.util.function.Consumer;
import java.util.function.Supplier;

/**
 * Compares telescopes by all that they tell and do later: the digest does not tell the bytes of the
 * text, the saved states, and what the latest aim has kept for its lesson, but later calls do.
 */
final class Twins {
    private static final int MOST_UNDOS = 5;
    private static final int LAST_CALLS = 4;

    private Twins() {
    }

    /** The call throws, and the telescope goes on like one for which it was never made. */
    static void dueRefused(String what, Class<? extends RuntimeException> want,
            Supplier<BentScope> maker, Consumer<BentScope> call) {
        dueAlike(what, () -> {
            BentScope scope = maker.get();
            Checks.dueThrow(what, want, () -> call.accept(scope));
            return scope;
        }, maker);
    }

    /** The call answers, and the telescope goes on like one for which it was never made. */
    static void dueQuestion(String what, Supplier<BentScope> maker, Consumer<BentScope> call) {
        dueAlike(what, () -> {
            BentScope scope = maker.get();
            call.accept(scope);
            return scope;
        }, maker);
    }

    static void dueAlike(String what, Supplier<BentScope> one, Supplier<BentScope> other) {
        for (int undos = 0; undos <= MOST_UNDOS; undos++) {
            for (int last = 0; last < LAST_CALLS; last++) {
                List<String> got = story(one.get(), undos, last);
                List<String> want = story(other.get(), undos, last);
                Checks.dueTrue(what + ": after it " + got + ", due is " + want + ", which", got.equals(want));
            }
        }
    }

    private static List<String> story(BentScope scope, int undos, int last) {
        List<String> told = new ArrayList<>();
        told.add("digest " + scope.digest());
        for (int i = 0; i < undos; i++) {
            told.add("undo " + answer(() -> scope.undo()) + " " + scope.digest());
        }
        switch (last) {
            case 1:
                told.add("learn " + answer(() -> scope.learn()) + " " + scope.digest());
                break;
            case 2:
                told.add("carryOut " + answer(() -> scope.carryOut()) + " " + scope.digest());
                break;
            case 3:
                told.add("learnAll " + answer(() -> scope.learnAll()) + " " + scope.digest());
                break;
            default:
                break;
        }
        return told;
    }

    private static String answer(Supplier<Integer> call) {
        try {
            return "" + call.get();
        } catch (RuntimeException e) {
            return e.getClass().getSimpleName();
        }
    }
}
