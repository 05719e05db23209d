import java.util.function.Supplier;

/** The digest as the document tells it, from the answers of a telescope that is made alike. */
final class Digests {
    private Digests() {
    }

    /** Another telescope answers, so that no object is asked more often than the document allows. */
    static void due(String what, Supplier<BentScope> maker) {
        BentScope scope = maker.get();
        int stars = scope.value(0);
        long h = 31 * 3697L + maker.get().clearText();
        for (int i = 0; i < 12; i++) {
            h = 31 * h + scope.value(i);
        }
        for (int i = 0; i < 5; i++) {
            h = 31 * h + scope.setting(i);
        }
        for (int i = 0; i < 8; i++) {
            h = 31 * h + scope.bend(i / 4, i % 4);
        }
        for (int i = 0; i < 7 * stars; i++) {
            h = 31 * h + scope.star(i / 7, i % 7);
        }
        for (int region = 0; region < 24; region++) {
            h = 31 * h + scope.lessons(region);
            h = 31 * h + Double.doubleToLongBits(scope.correction(region, false));
            h = 31 * h + Double.doubleToLongBits(scope.correction(region, true));
        }
        if (scope.value(10) != BentScope.NONE) {
            for (int i = 0; i < 3; i++) {
                h = 31 * h + Double.doubleToLongBits(scope.miss(i));
            }
        }
        h = 31 * h + savedStates(scope);
        Checks.due("digest of " + what, maker.get().digest(), h);
    }

    /** Undoes all of them. */
    static int savedStates(BentScope scope) {
        int saved = 0;
        try {
            while (saved <= 4) {
                scope.undo();
                saved++;
            }
        } catch (IllegalStateException e) {
            return saved;
        }
        return saved;
    }
}
