import java.util.List;
import java.util.function.Consumer;
import java.util.function.Supplier;

/**
 * "A call that throws an exception changes nothing. If several exceptions apply, the one that is listed
 * first is thrown.": each refused call of each method, in the states in which it is refused, and all
 * that the telescope tells and does later is as if the call had not been made.
 */
public final class RefusalTest {
    private static final Class<IllegalArgumentException> ILLEGAL = IllegalArgumentException.class;
    private static final Class<IllegalStateException> STATE = IllegalStateException.class;
    private static final Class<IndexOutOfBoundsException> INDEX = IndexOutOfBoundsException.class;
    private static final int LEAST = Integer.MIN_VALUE;
    private static final int GREATEST = Integer.MAX_VALUE;

    private static final List<Supplier<BentScope>> ALL =
        List.of(BentScope::new, Scopes::busy, Scopes::learned, Scopes::full, () -> Scopes.late(0));

    public static void main(String[] args) {
        set();
        setBend();
        addStar();
        aim();
        learn();
        learnAll();
        forget();
        questions();
        tour();
        append();
        undo();
        Checks.finish("RefusalTest");
    }

    private static void refused(List<Supplier<BentScope>> makers, String what, Class<? extends RuntimeException> want,
            Consumer<BentScope> call) {
        for (Supplier<BentScope> maker : makers) {
            Twins.dueRefused(what, want, maker, call);
        }
    }

    /** "IllegalArgumentException if what or value is out of range", then "IllegalStateException if the low limit" */
    private static void set() {
        int[][] wrong = {{-1, 50}, {5, 50}, {LEAST, 50}, {GREATEST, 50}, {0, 0}, {0, 601}, {1, 0}, {1, 101}, {2, 0},
            {2, 121}, {3, -1}, {4, -1}, {4, 5401}, {0, LEAST}, {2, GREATEST}};
        for (int[] row : wrong) {
            refused(ALL, "set(" + row[0] + ", " + row[1] + ")", ILLEGAL, scope -> scope.set(row[0], row[1]));
        }
        // Out of range, and greater than the high limit as well.
        refused(ALL, "low limit 5401", ILLEGAL, scope -> scope.set(3, 5401));
        refused(ALL, "low limit 5101", STATE, scope -> scope.set(3, 5101));
        refused(ALL, "low limit 5400", STATE, scope -> scope.set(3, 5400));
        refused(ALL, "high limit 599", STATE, scope -> scope.set(4, 599));
        refused(ALL, "high limit 0", STATE, scope -> scope.set(4, 0));
    }

    private static void setBend() {
        int[][] wrong = {{-1, 0, 0}, {2, 0, 0}, {0, -1, 0}, {0, 4, 0}, {1, -1, 0}, {1, 4, 0}, {0, 0, 121},
            {0, 3, -121}, {1, 0, 121}, {1, 3, -121}, {LEAST, LEAST, LEAST}, {GREATEST, GREATEST, GREATEST}};
        for (int[] row : wrong) {
            refused(ALL, "setBend", ILLEGAL, scope -> scope.setBend(row[0], row[1], row[2]));
        }
    }

    /** "IllegalArgumentException if an argument is out of range", then "IllegalStateException if there are 20 stars" */
    private static void addStar() {
        int[][] wrong = {{-1, 0}, {21600, 0}, {0, -1}, {0, 5401}, {LEAST, 0}, {0, GREATEST}};
        for (int[] row : wrong) {
            refused(ALL, "addStar", ILLEGAL, scope -> scope.addStar(row[0], row[1]));
        }
        refused(List.of(Scopes::full), "a 21st star", STATE, scope -> scope.addStar(0, 0));
        refused(List.of(Scopes::full), "a 21st star", STATE, scope -> scope.addStar(21599, 5400));
    }

    /** "IndexOutOfBoundsException if there is no such star", then "IllegalStateException if its altitude" and so on */
    private static void aim() {
        for (int star : new int[] {-1, 20, LEAST, GREATEST}) {
            refused(ALL, "aim(" + star + ")", INDEX, scope -> scope.aim(star));
        }
        refused(List.of(BentScope::new), "aim(0)", INDEX, scope -> scope.aim(0));
        refused(List.of(Scopes::busy, Scopes::learned), "aim(5)", INDEX, scope -> scope.aim(5));
        refused(List.of(Scopes::busy, Scopes::learned, Scopes::full), "below the limits", STATE, scope -> scope.aim(2));
        refused(List.of(Scopes::busy, Scopes::learned, Scopes::full), "above the limits", STATE, scope -> scope.aim(4));
        refused(List.of(() -> Scopes.late(1)), "too late", STATE, scope -> scope.aim(0));
        refused(List.of(RefusalTest::atTheEnd), "too late", STATE, scope -> scope.aim(1));
    }

    /** At the time 1000000. */
    private static BentScope atTheEnd() {
        BentScope scope = Scopes.late(0);
        scope.aim(0);
        return scope;
    }

    private static void learn() {
        refused(List.of(BentScope::new), "no aim", STATE, scope -> scope.learn());
        refused(List.of(Scopes::learned), "learned from", STATE, scope -> scope.learn());
    }

    /** It would be too late for the first star, or for one on the way. */
    private static void learnAll() {
        refused(List.of(() -> Scopes.late(0), () -> Scopes.late(1)), "too late", STATE, scope -> scope.learnAll());
        refused(List.of(RefusalTest::atTheEnd), "too late", STATE, scope -> scope.learnAll());
    }

    private static void forget() {
        for (int region : new int[] {-1, 24, LEAST, GREATEST}) {
            refused(ALL, "forget(" + region + ")", INDEX, scope -> scope.forget(region));
        }
    }

    private static void questions() {
        refused(ALL, "star(-1, 0)", INDEX, scope -> scope.star(-1, 0));
        refused(ALL, "star(20, 7)", INDEX, scope -> scope.star(20, 7));
        refused(List.of(Scopes::busy), "star(5, 0)", INDEX, scope -> scope.star(5, 0));
        refused(List.of(Scopes::busy), "star(0, 7)", ILLEGAL, scope -> scope.star(0, 7));
        refused(List.of(Scopes::busy), "star(4, -1)", ILLEGAL, scope -> scope.star(4, -1));
        refused(ALL, "correction(24)", INDEX, scope -> scope.correction(24, false));
        refused(ALL, "source(-1)", INDEX, scope -> scope.source(-1));
        refused(ALL, "lessons(24)", INDEX, scope -> scope.lessons(24));
        refused(ALL, "miss(3)", ILLEGAL, scope -> scope.miss(3));
        refused(ALL, "miss(-1)", ILLEGAL, scope -> scope.miss(-1));
        refused(List.of(BentScope::new), "miss(0)", STATE, scope -> scope.miss(0));
        refused(ALL, "value(12)", ILLEGAL, scope -> scope.value(12));
        refused(ALL, "setting(5)", ILLEGAL, scope -> scope.setting(5));
        refused(ALL, "bend(2, 0)", ILLEGAL, scope -> scope.bend(2, 0));
        refused(ALL, "bend(0, 4)", ILLEGAL, scope -> scope.bend(0, 4));
        refused(ALL, "missOf(20)", INDEX, scope -> scope.missOf(20));
        refused(ALL, "slewTo(-1)", INDEX, scope -> scope.slewTo(-1));
    }

    /** "IllegalArgumentException if stars is empty" and so on, then "IndexOutOfBoundsException if place" */
    private static void tour() {
        for (int place : new int[] {BentScope.NONE, 0, -2, 6}) {
            refused(ALL, "tour of none", ILLEGAL, scope -> scope.tour(0, place));
            refused(ALL, "tour of star 20", ILLEGAL, scope -> scope.tour(1 << 20, place));
            refused(ALL, "tour of bit 31", ILLEGAL, scope -> scope.tour(LEAST, place));
            refused(List.of(Scopes::full), "tour of six", ILLEGAL, scope -> scope.tour(63, place));
        }
        refused(List.of(Scopes::busy), "place 2 of 2", INDEX, scope -> scope.tour(3, 2));
        refused(List.of(Scopes::busy), "place -2", INDEX, scope -> scope.tour(31, -2));
    }

    /** "IllegalArgumentException if value is out of range", then "IllegalStateException if the text has 100 bytes" */
    private static void append() {
        for (int value : new int[] {-1, 128, LEAST, GREATEST}) {
            refused(ALL, "append(" + value + ")", ILLEGAL, scope -> scope.append(value));
        }
        refused(List.of(Scopes::full), "byte 101", STATE, scope -> scope.append('l'));
    }

    private static void undo() {
        refused(List.of(BentScope::new, RefusalTest::undone), "undo", STATE, scope -> scope.undo());
    }

    /** Busy, with all its saved states gone. */
    private static BentScope undone() {
        BentScope scope = Scopes.busy();
        for (int i = 0; i < 4; i++) {
            scope.undo();
        }
        return scope;
    }
}
