import java.util.List;
import java.util.function.Consumer;

/** Promises 25 and 26: undo and digest. */
public final class StateTest {
    private static final Class<IllegalStateException> STATE = IllegalStateException.class;

    public static void main(String[] args) {
        undoing();
        droppingTheOldest();
        undoingEverything();
        digests();
        digestsOfDoubles();
        growingCorrections();
        Checks.finish("StateTest");
    }

    private static void undoing() {
        BentScope scope = new BentScope();
        Checks.dueRefusal(scope, "nothing to undo", STATE, () -> scope.undo());
        scope.addStar(0, 600);
        scope.set(0, 30);
        Checks.due("undo", scope.undo(), 1);
        Checks.due("speed", scope.setting(0), 60);
        Checks.due("stars", scope.value(0), 1);
        scope.set(0, 20);
        Checks.due("undo", scope.undo(), 1);
        Checks.due("undo", scope.undo(), 0);
        Checks.due("stars", scope.value(0), 0);
        Checks.dueRefusal(scope, "nothing to undo", STATE, () -> scope.undo());
    }

    private static void droppingTheOldest() {
        BentScope scope = new BentScope();
        for (int speed = 1; speed <= 11; speed++) {
            scope.set(0, speed);
        }
        for (int left = 3; left >= 0; left--) {
            Checks.due("undo", scope.undo(), left);
            Checks.due("speed", scope.setting(0), 7 + left);
        }
        Checks.dueRefusal(scope, "nothing to undo", STATE, () -> scope.undo());
        scope.set(0, 100);
        Checks.due("undo", scope.undo(), 0);
        Checks.due("speed", scope.setting(0), 7);
    }

    private static void undoingEverything() {
        BentScope scope = new BentScope();
        scope.addStar(1000, 2000);
        scope.addStar(15000, 4000);
        scope.setBend(0, 0, 33);
        scope.aim(0);
        scope.learn();
        scope.aim(1);
        Checks.append(scope, "b13+7;l;s5,5;a2;");
        scope.set(3, 0);
        long before = scope.digest();
        Checks.due("orders", scope.carryOut(), 4);
        scope.learnAll();
        scope.forget(1);
        Checks.due("undo", scope.undo(), 3);
        scope.undo();
        scope.undo();
        // Of the 4 saved states from before, the 3 calls have dropped 3.
        Checks.due("undone", scope.digest(), before - 3);
        Checks.due("a star anew has no aims", Checks.carryOut(scope, "s7,7;"), 1);
        Checks.due("aims", scope.star(2, 5) + scope.star(2, 6), 0);
    }

    /** Each step of a short story. */
    private static void digests() {
        for (int steps = 0; steps <= 8; steps++) {
            int made = steps;
            Digests.due("a story of " + steps + " steps", () -> story(made));
        }
    }

    private static BentScope story(int steps) {
        List<Consumer<BentScope>> calls = List.of(
            scope -> Checks.append(scope, "l;"),
            scope -> scope.addStar(1000, 2000),
            scope -> scope.setBend(0, 3, -77),
            scope -> scope.aim(0),
            scope -> scope.learn(),
            scope -> scope.set(0, 5),
            scope -> scope.undo(),
            scope -> scope.clearText());
        BentScope scope = new BentScope();
        for (int step = 0; step < steps; step++) {
            calls.get(step).accept(scope);
        }
        return scope;
    }

    /** Corrections and misses of many sizes and of both signs. */
    private static void digestsOfDoubles() {
        for (int rounds = 1; rounds <= 12; rounds++) {
            int made = rounds;
            Digests.due("doubles of " + rounds + " rounds", () -> learnedInRounds(made));
        }
    }

    private static BentScope learnedInRounds(int rounds) {
        BentScope scope = new BentScope();
        scope.set(3, 0);
        scope.set(4, 5400);
        for (int i = 0; i < 20; i++) {
            scope.addStar(1079 * i, 269 * i);
        }
        int[] bends = {1, -1, 120, -120, 3, -64, 0, 7};
        for (int round = 0; round < rounds; round++) {
            for (int i = 0; i < 8; i++) {
                scope.setBend(i / 4, i % 4, bends[(i + round) % 8]);
            }
            scope.set(1, 1 + 8 * round);
            scope.learnAll();
        }
        return scope;
    }

    /** At the horizon no command helps, so that the correction grows without a bound. */
    private static void growingCorrections() {
        BentScope scope = new BentScope();
        scope.set(1, 100);
        scope.set(3, 0);
        scope.setBend(0, 2, 120);
        scope.addStar(0, 0);
        for (int i = 0; i < 20; i++) {
            Checks.append(scope, "a0;l;");
        }
        for (int round = 1; round <= 200; round++) {
            scope.carryOut();
            Checks.dueDouble("grown", scope.correction(0, true), round * 20 * 120.0);
        }
    }
}
