/** Promises 9 to 16: what the telescope tells of itself. */
public final class ValuesTest {
    private static final Class<IllegalArgumentException> ILLEGAL = IllegalArgumentException.class;
    private static final Class<IllegalStateException> STATE = IllegalStateException.class;
    private static final Class<IndexOutOfBoundsException> INDEX = IndexOutOfBoundsException.class;

    public static void main(String[] args) {
        starFacts();
        wrongStars();
        corrections();
        sources();
        lessons();
        misses();
        values();
        wrongNumbers();
        Checks.finish("ValuesTest");
    }

    /** Each row: azimuth, altitude, then side, region, and whether it is within the limits. */
    private static void starFacts() {
        int[][] rows = {
            {0, 0, 0, 0, 0}, {2699, 1800, 0, 0, 1}, {2700, 1801, 0, 4, 1}, {5399, 3601, 0, 4, 1},
            {5400, 3602, 0, 8, 1}, {10799, 5400, 0, 11, 0}, {10800, 599, 1, 12, 0},
            {10800, 600, 1, 12, 1}, {16199, 5100, 1, 17, 1}, {16200, 5101, 1, 20, 0},
            {18899, 2700, 1, 19, 1}, {18900, 2700, 1, 22, 1}, {21599, 5400, 1, 23, 0},
        };
        BentScope scope = new BentScope();
        for (int star = 0; star < rows.length; star++) {
            scope.addStar(rows[star][0], rows[star][1]);
        }
        for (int star = 0; star < rows.length; star++) {
            for (int what = 0; what < 5; what++) {
                Checks.due("star(" + star + ", " + what + ")", scope.star(star, what), rows[star][what]);
            }
            Checks.due("aims", scope.star(star, 5), 0);
            Checks.due("finds", scope.star(star, 6), 0);
        }
        scope.setBend(1, 2, 50);
        scope.aim(1);
        scope.aim(7);
        scope.aim(1);
        scope.setBend(0, 2, 50);
        scope.aim(1);
        Checks.due("aims", scope.star(1, 5), 3);
        Checks.due("finds", scope.star(1, 6), 2);
        Checks.due("aims", scope.star(7, 5), 1);
        Checks.due("finds", scope.star(7, 6), 0);
        scope.set(3, 2000);
        Checks.due("out of the limits now", scope.star(1, 4), 0);
    }

    private static void wrongStars() {
        BentScope scope = new BentScope();
        Checks.dueRefusal(scope, "no star", INDEX, () -> scope.star(0, 0));
        Checks.dueRefusal(scope, "both wrong", INDEX, () -> scope.star(0, 7));
        scope.addStar(0, 0);
        Checks.dueRefusal(scope, "star 1", INDEX, () -> scope.star(1, 0));
        Checks.dueRefusal(scope, "star -1", INDEX, () -> scope.star(-1, -1));
        Checks.dueRefusal(scope, "star 20", INDEX, () -> scope.star(20, 0));
        Checks.dueRefusal(scope, "what 7", ILLEGAL, () -> scope.star(0, 7));
        Checks.dueRefusal(scope, "what -1", ILLEGAL, () -> scope.star(0, -1));
    }

    private static void corrections() {
        BentScope scope = new BentScope();
        scope.setBend(0, 0, 30);
        scope.setBend(0, 2, -20);
        scope.setBend(1, 0, 80);
        scope.setBend(1, 2, 64);
        scope.aim(scope.addStar(0, 2700));
        scope.learn();
        for (int region = 0; region < 24; region++) {
            Checks.dueDouble("azimuth everywhere", scope.correction(region, false), 15.0);
            Checks.dueDouble("altitude everywhere", scope.correction(region, true), -10.0);
        }
        scope.aim(scope.addStar(10800, 2700));
        scope.learn();
        Checks.dueDouble("own", scope.correction(1, false), 15.0);
        Checks.dueDouble("own", scope.correction(13, false), 15.0 + 65.0 * 50 / 100.0);
        Checks.dueDouble("own", scope.correction(13, true), -10.0 + 74.0 * 50 / 100.0);
        Checks.dueDouble("near", scope.correction(10, true), 27.0);
        Checks.dueDouble("between", scope.correction(7, true), -10.0);
        Checks.dueThrow("region -1", INDEX, () -> scope.correction(-1, true));
        Checks.dueThrow("region 24", INDEX, () -> scope.correction(24, false));
    }

    /** A telescope with one lesson in each of these regions. */
    private static BentScope taughtIn(int... regions) {
        BentScope scope = new BentScope();
        int[] altitudes = {900, 2700, 4500};
        for (int region : regions) {
            scope.aim(scope.addStar(2700 * (region / 3), altitudes[region % 3]));
            scope.learn();
        }
        return scope;
    }

    private static void dueSources(BentScope scope, int... want) {
        for (int region = 0; region < 24; region++) {
            Checks.due("source(" + region + ")", scope.source(region), want[region]);
        }
    }

    private static void sources() {
        // A row of three regions is a sector; the sectors 0 and 7 are neighbours.
        dueSources(taughtIn(23, 0),
            0, 0, 23,
            0, 0, 23,
            0, 0, 23,
            0, 0, 23,
            0, 23, 23,
            0, 23, 23,
            0, 23, 23,
            0, 23, 23);
        // Of the regions 9 and 17 the lower one counts where both are as near: 11, 13, 15, 18.
        dueSources(taughtIn(4, 17, 9),
            4, 4, 4,
            4, 4, 4,
            9, 4, 4,
            9, 9, 9,
            9, 9, 17,
            9, 17, 17,
            9, 17, 17,
            4, 4, 17);
        BentScope scope = taughtIn(7);
        scope.forget(7);
        Checks.due("forgotten", scope.source(7), BentScope.NONE);
        Checks.dueThrow("region -1", INDEX, () -> scope.source(-1));
        Checks.dueThrow("region 24", INDEX, () -> scope.source(24));
    }

    private static void lessons() {
        BentScope scope = taughtIn(5, 5, 23, 5);
        Checks.due("lessons", scope.lessons(5), 3);
        Checks.due("lessons", scope.lessons(23), 1);
        Checks.due("lessons", scope.lessons(4), 0);
        Checks.due("lessons", scope.lessons(0), 0);
        Checks.due("all", scope.value(8), 4);
        Checks.due("taught", scope.value(9), 2);
        BentScope all = taughtIn(0, 23, 1, 22);
        Checks.due("all", all.value(8), 4);
        Checks.due("taught", all.value(9), 4);
        Checks.dueThrow("region -1", INDEX, () -> scope.lessons(-1));
        Checks.dueThrow("region 24", INDEX, () -> scope.lessons(24));
    }

    private static void misses() {
        BentScope scope = new BentScope();
        Checks.dueThrow("no aim", STATE, () -> scope.miss(0));
        Checks.dueThrow("no aim", STATE, () -> scope.miss(2));
        Checks.dueThrow("miss 3, no aim", ILLEGAL, () -> scope.miss(3));
        Checks.dueThrow("miss -1, no aim", ILLEGAL, () -> scope.miss(-1));
        scope.setBend(0, 0, 3);
        scope.setBend(0, 1, 7);
        scope.setBend(0, 2, -20);
        scope.setBend(0, 3, 11);
        scope.addStar(50, 1234);
        scope.aim(0);
        Checks.dueDouble("azimuth", scope.miss(0), 3 + 7 * 1234 / 5400.0);
        Checks.dueDouble("altitude", scope.miss(1), -20 + 11 * 1234 / 5400.0);
        Checks.dueDouble("size", scope.miss(2), -(-20 + 11 * 1234 / 5400.0));
        // The misses are those of the aim, whatever comes after it.
        scope.setBend(0, 0, -100);
        scope.learn();
        Checks.dueDouble("kept", scope.miss(0), 3 + 7 * 1234 / 5400.0);
        scope.aim(0);
        Checks.dueDouble("size", scope.miss(2), -scope.miss(0));
        Checks.dueThrow("miss 3", ILLEGAL, () -> scope.miss(3));
        scope.undo();
        Checks.dueDouble("back", scope.miss(0), 3 + 7 * 1234 / 5400.0);
        scope.setBend(0, 0, 0);
        scope.setBend(0, 1, -120);
        scope.set(3, 0);
        scope.forget(0);
        scope.aim(scope.addStar(0, 0));
        Checks.dueDouble("no sign of 0", scope.miss(0), 0.0);
    }

    private static void values() {
        BentScope scope = new BentScope();
        scope.addStar(2000, 3000);
        scope.addStar(20000, 3000);
        scope.setBend(1, 2, 30);
        scope.aim(0);
        scope.aim(1);
        scope.learn();
        Checks.dueValues(scope, "values", 2, -1600, 3000, 1, 154, 2, 1, 1, 1, 1, 1, 0);
        scope.aim(0);
        scope.learn();
        // What star 1 taught holds for star 0 too, so the command is 15 lower.
        Checks.dueValues(scope, "values", 2, 2000, 2985, 0, 274, 3, 1, 2, 2, 2, 0, 0);
        scope.forget(22);
        Checks.dueValues(scope, "values", 2, 2000, 2985, 0, 274, 3, 1, 2, 1, 1, 0, 0);
    }

    private static void wrongNumbers() {
        BentScope scope = new BentScope();
        Checks.dueThrow("value -1", ILLEGAL, () -> scope.value(-1));
        Checks.dueThrow("value 12", ILLEGAL, () -> scope.value(12));
        Checks.dueThrow("setting -1", ILLEGAL, () -> scope.setting(-1));
        Checks.dueThrow("setting 5", ILLEGAL, () -> scope.setting(5));
        Checks.dueThrow("bend -1, 3", ILLEGAL, () -> scope.bend(-1, 3));
        Checks.dueThrow("bend 2, 0", ILLEGAL, () -> scope.bend(2, 0));
        Checks.dueThrow("bend 0, 4", ILLEGAL, () -> scope.bend(0, 4));
        Checks.dueThrow("bend 1, -1", ILLEGAL, () -> scope.bend(1, -1));
    }
}
