/** Promises 1 to 8: a new object, and the calls that change the telescope. */
public final class TelescopeTest {
    private static final Class<IllegalArgumentException> ILLEGAL = IllegalArgumentException.class;
    private static final Class<IllegalStateException> STATE = IllegalStateException.class;
    private static final Class<IndexOutOfBoundsException> INDEX = IndexOutOfBoundsException.class;

    public static void main(String[] args) {
        newObject();
        setting();
        settingLimits();
        settingBends();
        addingStars();
        aiming();
        choosingTurns();
        roundingTimesUp();
        limitsOfAiming();
        timeOfAiming();
        aimingBesideTheNorth();
        aimingAtTheEdgesOfAltitude();
        roundingCorrections();
        learning();
        learningFromWhatHeldThen();
        learningOnce();
        learningAll();
        learningAllTooLate();
        forgetting();
        Checks.finish("TelescopeTest");
    }

    private static void newObject() {
        BentScope scope = new BentScope();
        Checks.dueValues(scope, "new", 0, 0, 2700, 0, 0, 0, 0, 0, 0, 0, BentScope.NONE, 0);
        int[] first = {60, 50, 10, 600, 5100};
        for (int what = 0; what < 5; what++) {
            Checks.due("new setting " + what, scope.setting(what), first[what]);
        }
        for (int i = 0; i < 8; i++) {
            Checks.due("new bend " + i, scope.bend(i / 4, i % 4), 0);
        }
        for (int region = 0; region < 24; region++) {
            Checks.due("new lessons", scope.lessons(region), 0);
            Checks.due("new source", scope.source(region), BentScope.NONE);
            Checks.dueDouble("new correction", scope.correction(region, false), 0.0);
            Checks.dueDouble("new correction", scope.correction(region, true), 0.0);
        }
        Checks.dueThrow("new undo", STATE, () -> scope.undo());
        Checks.due("new text", scope.clearText(), 0);
    }

    private static void setting() {
        BentScope scope = new BentScope();
        int[] lowest = {1, 1, 1, 0, 0};
        int[] highest = {600, 100, 120, 5400, 5400};
        int[] first = {60, 50, 10, 600, 5100};
        for (int what = 0; what < 3; what++) {
            int setting = what;
            Checks.due("set", scope.set(what, lowest[what]), first[what]);
            Checks.due("set", scope.set(what, highest[what]), lowest[what]);
            Checks.due("set", scope.set(what, 7), highest[what]);
            Checks.due("setting", scope.setting(what), 7);
            Checks.dueRefusal(scope, "set low", ILLEGAL, () -> scope.set(setting, lowest[setting] - 1));
            Checks.dueRefusal(scope, "set high", ILLEGAL, () -> scope.set(setting, highest[setting] + 1));
        }
        Checks.dueRefusal(scope, "set -1", ILLEGAL, () -> scope.set(-1, 5));
        Checks.dueRefusal(scope, "set 5", ILLEGAL, () -> scope.set(5, 5));
        Checks.dueRefusal(scope, "set least", ILLEGAL, () -> scope.set(Integer.MIN_VALUE, 5));
        BentScope other = new BentScope();
        Checks.dueUndoable(other, "set", () -> other.set(0, 1));
        Checks.dueUndoable(other, "set the same", () -> other.set(0, 60));
    }

    private static void settingLimits() {
        BentScope scope = new BentScope();
        Checks.dueRefusal(scope, "low over high", STATE, () -> scope.set(3, 5101));
        Checks.dueRefusal(scope, "high under low", STATE, () -> scope.set(4, 599));
        Checks.dueRefusal(scope, "low out of range", ILLEGAL, () -> scope.set(3, 5401));
        Checks.dueRefusal(scope, "low out of range", ILLEGAL, () -> scope.set(3, -1));
        Checks.dueRefusal(scope, "high out of range", ILLEGAL, () -> scope.set(4, 5401));
        Checks.dueRefusal(scope, "high out of range", ILLEGAL, () -> scope.set(4, -1));
        Checks.due("low", scope.set(3, 5100), 600);
        Checks.due("high", scope.set(4, 5400), 5100);
        Checks.due("low", scope.set(3, 5400), 5100);
        Checks.due("low", scope.set(3, 0), 5400);
        Checks.due("high", scope.set(4, 0), 5400);
        Checks.due("low", scope.setting(3), 0);
        Checks.due("high", scope.setting(4), 0);
    }

    private static void settingBends() {
        BentScope scope = new BentScope();
        for (int i = 0; i < 8; i++) {
            Checks.due("setBend", scope.setBend(i / 4, i % 4, 10 + i), 0);
        }
        for (int i = 0; i < 8; i++) {
            Checks.due("bend", scope.bend(i / 4, i % 4), 10 + i);
        }
        Checks.due("setBend", scope.setBend(1, 3, -120), 17);
        Checks.due("setBend", scope.setBend(1, 3, 120), -120);
        Checks.dueRefusal(scope, "side 2", ILLEGAL, () -> scope.setBend(2, 0, 0));
        Checks.dueRefusal(scope, "side -1", ILLEGAL, () -> scope.setBend(-1, 3, 0));
        Checks.dueRefusal(scope, "what 4", ILLEGAL, () -> scope.setBend(0, 4, 0));
        Checks.dueRefusal(scope, "what -1", ILLEGAL, () -> scope.setBend(1, -1, 0));
        Checks.dueRefusal(scope, "value 121", ILLEGAL, () -> scope.setBend(0, 0, 121));
        Checks.dueRefusal(scope, "value -121", ILLEGAL, () -> scope.setBend(0, 0, -121));
        BentScope other = new BentScope();
        Checks.dueUndoable(other, "setBend", () -> other.setBend(1, 2, 5));
    }

    private static void addingStars() {
        BentScope scope = new BentScope();
        Checks.dueUndoable(scope, "addStar", () -> scope.addStar(5, 6));
        Checks.dueRefusal(scope, "azimuth", ILLEGAL, () -> scope.addStar(-1, 0));
        Checks.dueRefusal(scope, "azimuth", ILLEGAL, () -> scope.addStar(21600, 0));
        Checks.dueRefusal(scope, "altitude", ILLEGAL, () -> scope.addStar(0, -1));
        Checks.dueRefusal(scope, "altitude", ILLEGAL, () -> scope.addStar(0, 5401));
        Checks.due("addStar", scope.addStar(21599, 5400), 0);
        for (int star = 1; star < 20; star++) {
            Checks.due("addStar", scope.addStar(0, 0), star);
        }
        Checks.due("stars", scope.value(0), 20);
        Checks.dueRefusal(scope, "star 20", STATE, () -> scope.addStar(0, 0));
        Checks.dueRefusal(scope, "wrong star 20", ILLEGAL, () -> scope.addStar(21600, 0));
    }

    private static void aiming() {
        BentScope scope = new BentScope();
        scope.addStar(1000, 2000);
        scope.addStar(12000, 4000);
        Checks.dueUndoable(scope, "aim", () -> scope.aim(1));
        Checks.due("aim", scope.aim(0), 17);
        Checks.dueValues(scope, "aimed", 2, 1000, 2000, 0, 17, 1, 1, 0, 0, 0, 0, 1);
        Checks.due("aim", scope.aim(1), 237);
        Checks.dueValues(scope, "flipped", 2, -9600, 4000, 1, 254, 2, 2, 1, 0, 0, 1, 1);
        Checks.due("aim", scope.aim(1), 0);
        Checks.dueValues(scope, "again", 2, -9600, 4000, 1, 254, 3, 3, 1, 0, 0, 1, 1);
        Checks.due("aims", scope.star(0, 5), 1);
        Checks.due("aims", scope.star(1, 5), 2);
        scope.setBend(1, 0, 11);
        scope.aim(1);
        Checks.dueValues(scope, "missed", 2, -9600, 4000, 1, 254, 4, 3);
        Checks.due("aims", scope.star(1, 5), 3);
        Checks.due("finds", scope.star(1, 6), 2);
    }

    /** Each row: the azimuths that are aimed at, one after the other, and the last turn that is due. */
    private static void choosingTurns() {
        int[][] rows = {
            {5399, 5399}, {16201, -5399}, {16200, -5400}, {5400, 5400},
            {10800, -10800}, {10799, 10799}, {10801, -10799},
            {10799, 16200, 16200}, {5400, 16200, -5400}, {5401, 16200, 16200},
            {16200, 5400, -16200}, {16201, 5400, 5400}, {16200, 5399, 5399},
            {10799, 16201, -5399}, {10799, 10801, 10801}, {10801, 10799, -10801},
            {10799, 16200, 0, 0}, {10801, 5400, 0, 0}, {16199, 5400, -16200},
        };
        for (int[] row : rows) {
            BentScope scope = new BentScope();
            int last = row.length - 1;
            for (int i = 0; i < last; i++) {
                scope.aim(scope.addStar(row[i], 2700));
            }
            Checks.due("turn to " + row[last - 1], scope.value(1), row[last]);
        }
    }

    private static void roundingTimesUp() {
        BentScope scope = new BentScope();
        scope.set(0, 7);
        Checks.due("no change", scope.aim(scope.addStar(0, 2700)), 0);
        Checks.due("1 / 7", scope.aim(scope.addStar(1, 2700)), 1);
        Checks.due("7 / 7", scope.aim(scope.addStar(8, 2700)), 1);
        Checks.due("8 / 7", scope.aim(scope.addStar(16, 2700)), 2);
        Checks.due("altitude down", scope.aim(scope.addStar(16, 2685)), 3);
        Checks.due("altitude up", scope.aim(scope.addStar(17, 2700)), 3);
        Checks.due("turn and a flip", scope.aim(scope.addStar(21596, 2690)), 63);
        Checks.due("no flip", scope.aim(scope.addStar(21596, 2690)), 0);
        Checks.due("a flip back", scope.aim(scope.addStar(0, 2690)), 61);
        Checks.due("flips", scope.value(7), 2);
    }

    private static void limitsOfAiming() {
        BentScope scope = new BentScope();
        Checks.dueRefusal(scope, "no stars", INDEX, () -> scope.aim(0));
        scope.addStar(0, 599);
        scope.addStar(0, 600);
        scope.addStar(0, 5100);
        scope.addStar(0, 5101);
        Checks.dueRefusal(scope, "too low", STATE, () -> scope.aim(0));
        Checks.dueRefusal(scope, "too high", STATE, () -> scope.aim(3));
        Checks.dueRefusal(scope, "star 4", INDEX, () -> scope.aim(4));
        Checks.dueRefusal(scope, "star -1", INDEX, () -> scope.aim(-1));
        Checks.due("lowest", scope.aim(1), 35);
        Checks.due("highest", scope.aim(2), 75);
        // The limits hold for the star, not for the command.
        scope.setBend(0, 2, 120);
        scope.set(1, 100);
        scope.aim(1);
        scope.learn();
        scope.aim(1);
        Checks.due("command", scope.value(2), 480);
    }

    /** At the speed 1, the first slew and 92 slews of 10860 make the time. */
    private static BentScope afterManySlews(int firstSlew) {
        BentScope scope = new BentScope();
        scope.set(0, 1);
        scope.addStar(0, 2700 - firstSlew);
        scope.addStar(10800, 2700 - firstSlew);
        for (int slew = 0; slew < 92; slew++) {
            scope.aim(slew % 2);
        }
        return scope;
    }

    private static void timeOfAiming() {
        BentScope scope = afterManySlews(880);
        Checks.due("time", scope.value(4), 1000000 - 10860);
        Checks.due("the last slew", scope.aim(0), 10860);
        Checks.due("time", scope.value(4), 1000000);
        Checks.due("no slew", scope.aim(0), 0);
        Checks.dueRefusal(scope, "too late", STATE, () -> scope.aim(1));
        Checks.due("what if", scope.slewTo(1), 10860);
        BentScope other = afterManySlews(881);
        Checks.dueRefusal(other, "too late by 1", STATE, () -> other.aim(0));
        Checks.due("text too late", Checks.carryOut(other, "a1;a0;a1;"), 1);
    }

    private static void aimingBesideTheNorth() {
        BentScope scope = new BentScope();
        scope.set(1, 100);
        scope.setBend(0, 0, 120);
        scope.setBend(1, 0, -120);
        scope.addStar(100, 2700);
        scope.addStar(21500, 2700);
        scope.aim(0);
        scope.learn();
        Checks.due("below 0", scope.aim(0), 2);
        Checks.due("turn", scope.value(1), -20);
        Checks.due("side of the star", scope.value(3), 0);
        scope.forget(1);
        scope.aim(1);
        scope.learn();
        scope.aim(1);
        Checks.due("above 21599", scope.value(1), 20);
        Checks.due("side of the star", scope.value(3), 1);
        Checks.dueDouble("miss", scope.miss(0), 0.0);
    }

    private static void aimingAtTheEdgesOfAltitude() {
        BentScope scope = new BentScope();
        scope.set(3, 0);
        scope.set(4, 5400);
        scope.set(1, 100);
        scope.setBend(0, 2, 100);
        scope.setBend(1, 2, -100);
        scope.addStar(0, 30);
        scope.addStar(10800, 5370);
        scope.aim(0);
        scope.learn();
        scope.aim(0);
        Checks.due("not below 0", scope.value(2), 0);
        Checks.dueDouble("miss", scope.miss(1), 70.0);
        scope.forget(0);
        scope.aim(1);
        scope.learn();
        scope.aim(1);
        Checks.due("not above 5400", scope.value(2), 5400);
        Checks.dueDouble("miss", scope.miss(1), -70.0);
    }

    /** Each row: rate, bend, the turn at the second aim at the azimuth 1000. */
    private static void roundingCorrections() {
        int[][] rows = {
            {50, 1, 999}, {49, 1, 1000}, {50, -1, 1001}, {49, -1, 1000}, {50, 3, 998},
            {50, -3, 1002}, {25, 10, 997}, {25, -10, 1003}, {24, 10, 998}, {26, 10, 997},
            {24, -10, 1002}, {100, 120, 880}, {100, -120, 1120}, {1, 49, 1000}, {1, 50, 999},
        };
        for (int[] row : rows) {
            BentScope scope = new BentScope();
            scope.set(1, row[0]);
            scope.setBend(0, 0, row[1]);
            scope.addStar(1000, 2700);
            scope.aim(0);
            scope.learn();
            scope.aim(0);
            Checks.due("turn at " + row[0] + " of " + row[1], scope.value(1), row[2]);
        }
    }

    private static void learning() {
        BentScope scope = new BentScope();
        scope.addStar(1000, 2000);
        scope.setBend(0, 0, 30);
        scope.setBend(0, 1, -25);
        scope.setBend(0, 2, -7);
        scope.setBend(0, 3, 90);
        scope.aim(0);
        Checks.due("learn", scope.learn(), 1);
        double azimuth = 0.0 + (30 + -25 * 2000 / 5400.0) * 50 / 100.0;
        double altitude = 0.0 + (-7 + 90 * 2000 / 5400.0) * 50 / 100.0;
        Checks.dueDouble("azimuth", scope.correction(1, false), azimuth);
        Checks.dueDouble("altitude", scope.correction(1, true), altitude);
        scope.aim(0);
        Checks.due("command", scope.value(2), 1987);
        azimuth = azimuth + (-10 + (30 + -25 * 1987 / 5400.0)) * 33 / 100.0;
        altitude = altitude + (1987 - 2000 + (-7 + 90 * 1987 / 5400.0)) * 33 / 100.0;
        // The rate of the lesson counts, not that of the aim.
        scope.set(1, 33);
        Checks.due("learn", scope.learn(), 2);
        Checks.dueDouble("azimuth", scope.correction(1, false), azimuth);
        Checks.dueDouble("altitude", scope.correction(1, true), altitude);
        Checks.due("lessons", scope.value(8), 2);
    }

    private static void learningFromWhatHeldThen() {
        BentScope scope = new BentScope();
        scope.addStar(1000, 2000);
        scope.addStar(4000, 2000);
        scope.setBend(0, 0, 31);
        scope.setBend(0, 2, 15);
        scope.aim(0);
        scope.learn();
        Checks.dueDouble("first", scope.correction(1, false), 15.5);
        scope.aim(1);
        Checks.dueDouble("held", scope.miss(0), 15.0);
        // What held for the aim is kept, even if it is forgotten before the lesson.
        scope.forget(1);
        Checks.due("learn", scope.learn(), 1);
        Checks.dueDouble("azimuth", scope.correction(4, false), 15.5 + 15.0 * 50 / 100.0);
        Checks.dueDouble("altitude", scope.correction(4, true), 7.5 + 7.0 * 50 / 100.0);
        scope.aim(1);
        scope.forget(4);
        Checks.due("learn", scope.learn(), 1);
        Checks.dueDouble("azimuth", scope.correction(4, false), 23.0 + 8.0 * 50 / 100.0);
    }

    private static void learningOnce() {
        BentScope scope = new BentScope();
        Checks.dueRefusal(scope, "no aim", STATE, () -> scope.learn());
        scope.addStar(1000, 2000);
        scope.aim(0);
        Checks.dueUndoable(scope, "learn", () -> scope.learn());
        Checks.due("can learn", scope.value(11), 1);
        scope.learn();
        Checks.due("has learned", scope.value(11), 0);
        Checks.dueRefusal(scope, "learned", STATE, () -> scope.learn());
        scope.undo();
        Checks.due("can learn again", scope.learn(), 1);
        scope.aim(0);
        Checks.due("new aim", scope.learn(), 2);
    }

    private static void learningAll() {
        BentScope scope = new BentScope();
        Checks.dueUndoable(scope, "learnAll without stars", () -> scope.learnAll());
        Checks.due("no stars", scope.learnAll(), 0);
        scope.set(1, 100);
        scope.setBend(0, 0, 40);
        scope.setBend(1, 0, 45);
        scope.addStar(1000, 2000);
        scope.addStar(1000, 5101);
        scope.addStar(1000, 599);
        scope.addStar(4000, 2000);
        scope.addStar(14000, 2000);
        scope.addStar(1100, 2000);
        scope.undo();
        scope.addStar(1100, 2000);
        long before = scope.digest();
        // Star 0 misses by 40; what it teaches then holds for all.
        Checks.due("found", scope.learnAll(), 3);
        Checks.dueValues(scope, "all", 6, 1060, 2000, 0, 569, 4, 3, 2, 4, 3, 5, 0);
        Checks.due("lessons", scope.lessons(1), 2);
        Checks.due("lessons", scope.lessons(4), 1);
        Checks.due("lessons", scope.lessons(16), 1);
        Checks.dueDouble("taught", scope.correction(16, false), 45.0);
        Checks.due("left out", scope.star(1, 5) + scope.star(2, 5), 0);
        Checks.dueThrow("learned", STATE, () -> scope.learn());
        scope.undo();
        // The oldest saved state was dropped already, so their number is 1 less.
        Checks.due("undone", scope.digest(), before - 1);
    }

    private static void learningAllTooLate() {
        BentScope scope = afterManySlews(881);
        Checks.dueRefusal(scope, "too late", STATE, () -> scope.learnAll());
        Checks.due("no lessons", scope.value(8), 0);
        BentScope other = afterManySlews(880);
        other.undo();
        // At star 0 now: only one slew, to star 1, is left.
        Checks.due("in time", other.learnAll(), 2);
        Checks.due("time", other.value(4), 1000000 - 10860);
    }

    private static void forgetting() {
        BentScope scope = new BentScope();
        scope.setBend(0, 0, 40);
        scope.addStar(1000, 2000);
        scope.aim(0);
        scope.learn();
        scope.aim(0);
        Checks.dueRefusal(scope, "region -1", INDEX, () -> scope.forget(-1));
        Checks.dueRefusal(scope, "region 24", INDEX, () -> scope.forget(24));
        scope.learn();
        Checks.due("forget", scope.forget(1), 2);
        Checks.due("lessons", scope.lessons(1), 0);
        Checks.due("source", scope.source(1), BentScope.NONE);
        Checks.dueDouble("correction", scope.correction(1, false), 0.0);
        Checks.due("forget nothing", scope.forget(1), 0);
        Checks.due("forget nothing", scope.forget(23), 0);
        Checks.due("undo", scope.undo(), 3);
        scope.undo();
        scope.undo();
        Checks.due("lessons back", scope.lessons(1), 2);
        BentScope other = new BentScope();
        Checks.dueUndoable(other, "forget", () -> other.forget(0));
    }
}
