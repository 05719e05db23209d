/**
 * The edges that "Terms" names of rounding, stars, axes, settings and the bend. The sentence of the
 * document stands over each test.
 */
public final class TermsEdgesTest {
    private static final Class<IllegalArgumentException> ILLEGAL = IllegalArgumentException.class;
    private static final Class<IllegalStateException> STATE = IllegalStateException.class;

    public static void main(String[] args) {
        roundingOfHalves();
        atMostTwentyStars();
        starRanges();
        starSides();
        firstAxes();
        turnRange();
        altitudeRange();
        firstSettings();
        settingRanges();
        whatExtremeSettingsDo();
        firstBends();
        bendRanges();
        bendOfEachSide();
        bendAtTheHorizonAndTheTop();
        bendInTheOrderTold();
        Checks.finish("TermsEdgesTest");
    }

    /**
     * "Rounding a double x means: the whole part of x + 0.5 if x is 0.0 or more, otherwise minus the
     * whole part of 0.5 - x."
     */
    private static void roundingOfHalves() {
        // Rate and bend, whose product is 100 * x, and x rounded.
        int[][] rows = {
            {50, 0, 0}, {1, 1, 0}, {1, -1, 0}, {49, 1, 0}, {50, 1, 1}, {51, 1, 1}, {99, 1, 1}, {100, 1, 1},
            {49, -1, 0}, {50, -1, -1}, {51, -1, -1}, {100, -1, -1},
            {70, 2, 1}, {75, 2, 2}, {70, -2, -1}, {75, -2, -2}, {49, 3, 1}, {50, 3, 2}, {49, -3, -1}, {50, -3, -2},
            {50, 5, 3}, {50, -5, -3}, {50, 119, 60}, {50, -119, -60}, {100, 120, 120}, {100, -120, -120},
        };
        for (int[] row : rows) {
            BentScope scope = new BentScope();
            scope.set(1, row[0]);
            scope.setBend(0, 0, row[1]);
            scope.setBend(0, 2, row[1]);
            scope.aim(scope.addStar(1000, 2700));
            scope.learn();
            scope.aim(0);
            String what = row[0] * row[1] / 100.0 + " rounded";
            Checks.due(what + " in the azimuth", 1000 - scope.value(1), row[2]);
            Checks.due(what + " in the altitude", 2700 - scope.value(2), row[2]);
        }
    }

    /** "There are at most 20, numbered from 0." */
    private static void atMostTwentyStars() {
        BentScope scope = new BentScope();
        Checks.due("no star", scope.value(0), 0);
        for (int star = 0; star < 20; star++) {
            Checks.due("the number of a star", scope.addStar(star, 100 * star), star);
            Checks.due("stars", scope.value(0), star + 1);
        }
        Checks.dueThrow("a 21st star", STATE, () -> scope.addStar(0, 0));
        Checks.due("stars", scope.value(0), 20);
        for (int star = 0; star < 20; star++) {
            Checks.due("its azimuth", scope.star(star, 0), star);
            Checks.due("its altitude", scope.star(star, 1), 100 * star);
        }
        Checks.due("room after an undo", scope.undo(), 3);
        Checks.due("the 20th star again", scope.addStar(7, 8), 19);
    }

    /** "A star has an azimuth, 0 to 21599, and an altitude, 0 to 5400." */
    private static void starRanges() {
        int[][] allowed = {{0, 0}, {21599, 0}, {0, 5400}, {21599, 5400}};
        BentScope scope = new BentScope();
        for (int[] row : allowed) {
            int star = scope.addStar(row[0], row[1]);
            Checks.due("azimuth", scope.star(star, 0), row[0]);
            Checks.due("altitude", scope.star(star, 1), row[1]);
        }
        int[][] wrong = {{-1, 0}, {21600, 0}, {0, -1}, {0, 5401}, {Integer.MIN_VALUE, 0}, {Integer.MAX_VALUE, 0},
            {0, Integer.MIN_VALUE}, {0, Integer.MAX_VALUE}, {-21600, 0}, {21600, 5401}};
        for (int[] row : wrong) {
            Checks.dueThrow("addStar(" + row[0] + ", " + row[1] + ")", ILLEGAL, () -> scope.addStar(row[0], row[1]));
        }
        Checks.due("stars", scope.value(0), 4);
    }

    /** "It is on side 0 if its azimuth is less than 10800, otherwise on side 1." */
    private static void starSides() {
        int[][] rows = {{0, 0}, {10799, 0}, {10800, 1}, {21599, 1}};
        for (int[] row : rows) {
            BentScope scope = new BentScope();
            scope.setBend(0, 0, 5);
            scope.setBend(1, 0, 6);
            int star = scope.addStar(row[0], 2700);
            Checks.due("side of " + row[0], scope.star(star, 2), row[1]);
            Checks.dueDouble("bend of its side", scope.missOf(star), 5.0 + row[1]);
            scope.aim(star);
            Checks.due("side of the telescope", scope.value(3), row[1]);
            Checks.due("flips", scope.value(7), row[1]);
        }
    }

    /** "a turn, -16200 to 16200, initially 0, an altitude, 0 to 5400, initially 2700, and a side, initially 0" */
    private static void firstAxes() {
        BentScope scope = new BentScope();
        Checks.due("first turn", scope.value(1), 0);
        Checks.due("first altitude", scope.value(2), 2700);
        Checks.due("first side", scope.value(3), 0);
        Checks.due("no way to go", scope.slewTo(scope.addStar(0, 2700)), 0);
    }

    /** "The telescope has a turn, -16200 to 16200" */
    private static void turnRange() {
        Checks.due("the greatest turn", Scopes.atTurn(16200).value(1), 16200);
        Checks.due("the least turn", Scopes.atTurn(-16200).value(1), -16200);
        BentScope right = Scopes.atTurn(16200);
        right.aim(right.addStar(16201, 2700));
        Checks.due("one more goes all the way round", right.value(1), -5399);
        BentScope left = Scopes.atTurn(-16200);
        left.aim(left.addStar(5399, 2700));
        Checks.due("one less goes all the way round", left.value(1), 5399);
    }

    /** "an altitude, 0 to 5400, initially 2700" */
    private static void altitudeRange() {
        BentScope scope = new BentScope();
        scope.set(3, 0);
        scope.set(4, 5400);
        scope.aim(scope.addStar(0, 0));
        Checks.due("the least altitude", scope.value(2), 0);
        scope.aim(scope.addStar(0, 5400));
        Checks.due("the greatest altitude", scope.value(2), 5400);
    }

    /**
     * "Settings (first value; range): 0 speed (60; 1 to 600), 1 rate (50; 1 to 100), in percent, 2 field
     * (10; 1 to 120), 3 low limit (600; 0 to 5400), 4 high limit (5100; 0 to 5400)."
     */
    private static void firstSettings() {
        int[] first = {60, 50, 10, 600, 5100};
        BentScope scope = new BentScope();
        for (int what = 0; what < 5; what++) {
            Checks.due("setting " + what, scope.setting(what), first[what]);
            Checks.due("previous value", scope.set(what, first[what]), first[what]);
        }
    }

    /** The ranges of the same sentence. */
    private static void settingRanges() {
        int[] least = {1, 1, 1, 0, 0};
        int[] greatest = {600, 100, 120, 5400, 5400};
        for (int what = 0; what < 5; what++) {
            BentScope scope = new BentScope();
            int setting = what;
            // The other limit gives way, so that only the range is asked.
            if (what == 3) {
                scope.set(4, 5400);
            }
            if (what == 4) {
                scope.set(3, 0);
            }
            scope.set(what, least[what]);
            Checks.due("least", scope.setting(what), least[what]);
            Checks.dueThrow("less", ILLEGAL, () -> scope.set(setting, least[setting] - 1));
            Checks.due("previous value", scope.set(what, greatest[what]), least[what]);
            Checks.due("greatest", scope.setting(what), greatest[what]);
            Checks.dueThrow("more", ILLEGAL, () -> scope.set(setting, greatest[setting] + 1));
            Checks.dueThrow("least int", ILLEGAL, () -> scope.set(setting, Integer.MIN_VALUE));
            Checks.dueThrow("greatest int", ILLEGAL, () -> scope.set(setting, Integer.MAX_VALUE));
            Checks.due("unchanged", scope.setting(what), greatest[what]);
        }
    }

    /** What the least and the greatest speed, rate and field do. */
    private static void whatExtremeSettingsDo() {
        BentScope scope = new BentScope();
        scope.addStar(1201, 2700);
        scope.set(0, 1);
        Checks.due("speed 1", scope.slewTo(0), 1201);
        scope.set(0, 600);
        Checks.due("speed 600", scope.slewTo(0), 3);
        scope.setBend(0, 0, 120);
        scope.set(2, 120);
        Checks.due("field 120", scope.found(), 1);
        scope.set(2, 119);
        Checks.due("field 119", scope.found(), 0);
        scope.set(1, 1);
        scope.aim(0);
        scope.learn();
        Checks.dueDouble("rate 1", scope.correction(1, false), 1.2);
        scope.undo();
        scope.set(1, 100);
        scope.learn();
        Checks.dueDouble("rate 100", scope.correction(1, false), 120.0);
        scope.set(2, 1);
        Checks.due("field 1", scope.found(), 1);
        scope.setBend(0, 0, 119);
        Checks.due("field 1, missed by -1", scope.found(), 1);
        scope.setBend(0, 0, 118);
        Checks.due("field 1, missed by -2", scope.found(), 0);
    }

    /** "For each side there are four numbers, -120 to 120, initially 0" */
    private static void firstBends() {
        BentScope scope = new BentScope();
        for (int i = 0; i < 8; i++) {
            Checks.due("bend", scope.bend(i / 4, i % 4), 0);
        }
        scope.addStar(0, 5400);
        scope.addStar(10800, 5400);
        Checks.dueDouble("no bend on side 0", scope.missOf(0), 0.0);
        Checks.dueDouble("no bend on side 1", scope.missOf(1), 0.0);
    }

    /** The range of the same sentence, for each number of each side. */
    private static void bendRanges() {
        BentScope scope = new BentScope();
        for (int i = 0; i < 8; i++) {
            int side = i / 4;
            int what = i % 4;
            Checks.due("first", scope.setBend(side, what, 120), 0);
            Checks.dueThrow("121", ILLEGAL, () -> scope.setBend(side, what, 121));
            Checks.due("greatest", scope.setBend(side, what, -120), 120);
            Checks.dueThrow("-121", ILLEGAL, () -> scope.setBend(side, what, -121));
            Checks.dueThrow("least int", ILLEGAL, () -> scope.setBend(side, what, Integer.MIN_VALUE));
            Checks.dueThrow("greatest int", ILLEGAL, () -> scope.setBend(side, what, Integer.MAX_VALUE));
            Checks.due("the same again", scope.setBend(side, what, -120), -120);
            Checks.due("least", scope.setBend(side, what, i - 4), -120);
        }
        for (int i = 0; i < 8; i++) {
            Checks.due("each is its own", scope.bend(i / 4, i % 4), i - 4);
        }
    }

    /** "0 and 1 for the azimuth, 2 and 3 for the altitude" */
    private static void bendOfEachSide() {
        for (int i = 0; i < 8; i++) {
            BentScope scope = new BentScope();
            scope.setBend(i / 4, i % 4, 100);
            for (int side = 0; side < 2; side++) {
                scope.aim(scope.addStar(10800 * side, 1350));
                double bent = side != i / 4 ? 0.0 : i % 2 == 0 ? 100.0 : 25.0;
                Checks.dueDouble("bend " + i + " of the azimuth", scope.miss(0), i % 4 < 2 ? bent : 0.0);
                Checks.dueDouble("bend " + i + " of the altitude", scope.miss(1), i % 4 < 2 ? 0.0 : bent);
            }
        }
    }

    /** "At an altitude h the bend of the azimuth is number 0 + number 1 * h / 5400.0" */
    private static void bendAtTheHorizonAndTheTop() {
        BentScope scope = new BentScope();
        scope.set(3, 0);
        scope.set(4, 5400);
        scope.setBend(0, 0, 120);
        scope.setBend(0, 1, 120);
        scope.setBend(0, 2, -120);
        scope.setBend(0, 3, -120);
        scope.aim(scope.addStar(0, 0));
        Checks.dueDouble("azimuth at 0", scope.miss(0), 120.0);
        Checks.dueDouble("altitude at 0", scope.miss(1), -120.0);
        scope.aim(scope.addStar(0, 5400));
        Checks.dueDouble("azimuth at 5400", scope.miss(0), 240.0);
        Checks.dueDouble("altitude at 5400", scope.miss(1), -240.0);
        scope.setBend(0, 0, 0);
        scope.setBend(0, 1, -1);
        scope.aim(0);
        Checks.dueDouble("0 has no sign", scope.miss(0), 0.0);
    }

    /** "each time first the product, then the quotient, then the sum, in doubles" */
    private static void bendInTheOrderTold() {
        int[][] rows = {{700, 7, 8}, {774, 51, 3}, {922, 15, 8}, {959, 35, 3}, {1107, 31, 28}, {1181, 51, 8}};
        for (int[] row : rows) {
            double product = (double) row[1] * row[0];
            double quotient = product / 5400.0;
            double sum = row[2] + quotient;
            double other = row[2] + row[1] * (row[0] / 5400.0);
            double another = (row[2] * 5400.0 + row[1] * row[0]) / 5400.0;
            Checks.dueTrue("a row that tells orders apart", sum != other && sum != another);
            BentScope scope = new BentScope();
            scope.setBend(0, 0, row[2]);
            scope.setBend(0, 1, row[1]);
            scope.setBend(0, 2, row[2]);
            scope.setBend(0, 3, row[1]);
            scope.aim(scope.addStar(0, row[0]));
            Checks.dueDouble("bend of the azimuth", scope.miss(0), sum);
            Checks.dueDouble("bend of the altitude", scope.miss(1), sum);
        }
    }
}
