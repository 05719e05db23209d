/** Promises 25 and 26: undo and digest. */
public final class StateTest {
    private static final Class<IllegalStateException> STATE = IllegalStateException.class;

    public static void main(String[] args) {
        undoing();
        droppingTheOldest();
        undoingEverything();
        digests();
        digestsOfDoubles();
        digestsOfGrowingDoubles();
        Checks.finish("StateTest");
    }

    private static void undoing() {
        BentScope scope = new BentScope();
        Checks.dueRefusal(scope, "nothing to undo", STATE, () -> scope.undo());
        scope.addStar(0, 600);
        scope.set(0, 30);
        Checks.due("undo", scope.undo(), 1);
        Checks.due("speed", scope.setting(0), 60);
        Checks.due("stars", scope.value(0), 1);
        scope.set(0, 20);
        Checks.due("undo", scope.undo(), 1);
        Checks.due("undo", scope.undo(), 0);
        Checks.due("stars", scope.value(0), 0);
        Checks.dueRefusal(scope, "nothing to undo", STATE, () -> scope.undo());
    }

    private static void droppingTheOldest() {
        BentScope scope = new BentScope();
        for (int speed = 1; speed <= 11; speed++) {
            scope.set(0, speed);
        }
        for (int left = 3; left >= 0; left--) {
            Checks.due("undo", scope.undo(), left);
            Checks.due("speed", scope.setting(0), 7 + left);
        }
        Checks.dueRefusal(scope, "nothing to undo", STATE, () -> scope.undo());
        scope.set(0, 100);
        Checks.due("undo", scope.undo(), 0);
        Checks.due("speed", scope.setting(0), 7);
    }

    private static void undoingEverything() {
        BentScope scope = new BentScope();
        scope.addStar(1000, 2000);
        scope.addStar(15000, 4000);
        scope.setBend(0, 0, 33);
        scope.aim(0);
        scope.learn();
        scope.aim(1);
        Checks.append(scope, "b13+7;l;s5,5;a2;");
        scope.set(3, 0);
        long before = scope.digest();
        Checks.due("orders", scope.carryOut(), 4);
        scope.learnAll();
        scope.forget(1);
        Checks.due("undo", scope.undo(), 3);
        scope.undo();
        scope.undo();
        // Of the 4 saved states from before, the 3 calls have dropped 3.
        Checks.due("undone", scope.digest(), before - 3);
        Checks.due("a star anew has no aims", Checks.carryOut(scope, "s7,7;"), 1);
        Checks.due("aims", scope.star(2, 5) + scope.star(2, 6), 0);
    }

    /** The hash as the document tells it, from the answers of the other calls. */
    private static long expected(BentScope scope, int text, int saved) {
        long h = 31 * 3697L + text;
        for (int what = 0; what < 12; what++) {
            h = 31 * h + scope.value(what);
        }
        for (int what = 0; what < 5; what++) {
            h = 31 * h + scope.setting(what);
        }
        for (int side = 0; side < 2; side++) {
            for (int what = 0; what < 4; what++) {
                h = 31 * h + scope.bend(side, what);
            }
        }
        for (int i = 0; i < 7 * scope.value(0); i++) {
            h = 31 * h + scope.star(i / 7, i % 7);
        }
        for (int region = 0; region < 24; region++) {
            h = 31 * h + scope.lessons(region);
            h = 31 * h + Double.doubleToLongBits(scope.correction(region, false));
            h = 31 * h + Double.doubleToLongBits(scope.correction(region, true));
        }
        for (int what = 0; what < 3 && scope.value(10) != BentScope.NONE; what++) {
            h = 31 * h + Double.doubleToLongBits(scope.miss(what));
        }
        return 31 * h + saved;
    }

    private static void digests() {
        BentScope scope = new BentScope();
        Checks.due("new", scope.digest(), expected(scope, 0, 0));
        Checks.append(scope, "l;");
        Checks.due("text", scope.digest(), expected(scope, 2, 0));
        scope.addStar(1000, 2000);
        Checks.due("star", scope.digest(), expected(scope, 2, 1));
        scope.setBend(0, 3, -77);
        Checks.due("bend", scope.digest(), expected(scope, 2, 2));
        scope.aim(0);
        Checks.due("aim", scope.digest(), expected(scope, 2, 3));
        scope.learn();
        Checks.due("learn", scope.digest(), expected(scope, 2, 4));
        scope.set(0, 5);
        Checks.due("set", scope.digest(), expected(scope, 2, 4));
        scope.undo();
        scope.clearText();
        Checks.due("undo", scope.digest(), expected(scope, 0, 3));
    }

    /** Corrections and misses of many sizes and of both signs. */
    private static void digestsOfDoubles() {
        BentScope scope = new BentScope();
        scope.set(3, 0);
        scope.set(4, 5400);
        for (int i = 0; i < 20; i++) {
            scope.addStar(1079 * i, 269 * i);
        }
        int[] bends = {1, -1, 120, -120, 3, -64, 0, 7};
        for (int round = 0; round < 12; round++) {
            for (int i = 0; i < 8; i++) {
                scope.setBend(i / 4, i % 4, bends[(i + round) % 8]);
            }
            scope.set(1, 1 + 8 * round);
            scope.learnAll();
            Checks.due("round " + round, scope.digest(), expected(scope, 0, 4));
        }
    }

    /** At the horizon no command helps, so that the correction grows without a bound. */
    private static void digestsOfGrowingDoubles() {
        BentScope scope = new BentScope();
        scope.set(1, 100);
        scope.set(3, 0);
        scope.setBend(0, 2, 120);
        scope.addStar(0, 0);
        for (int i = 0; i < 20; i++) {
            Checks.append(scope, "a0;l;");
        }
        for (int round = 1; round <= 300; round++) {
            scope.carryOut();
            Checks.due("growing", scope.digest(), expected(scope, 100, 4));
            Checks.dueDouble("grown", scope.correction(0, true), round * 20 * 120.0);
        }
    }
}
