/**
 * The edges that "Terms" names of aiming, and those of aim(). The sentence of the document stands over
 * each test.
 */
public final class AimEdgesTest {
    private static final Class<IllegalStateException> STATE = IllegalStateException.class;
    private static final Class<IndexOutOfBoundsException> INDEX = IndexOutOfBoundsException.class;
    private static final int[] TURNS = {-16200, -16199, -10801, -10800, -10799, -5401, -5400, -5399, -5398, -1, 0, 1,
        5398, 5399, 5400, 5401, 10799, 10800, 10801, 16199, 16200};
    private static final int[] AZIMUTHS = {0, 1, 5398, 5399, 5400, 5401, 8000, 10799, 10800, 10801, 13600, 16199,
        16200, 16201, 16202, 21599};

    public static void main(String[] args) {
        azimuthsBeyondTheNorth();
        altitudesBeyondTheEnds();
        correctionsOfTheRegion();
        nearestTurns();
        lowerOfTwoTurns();
        turnsAtTheEndsOfTheCable();
        greaterChange();
        roundedUp();
        flips();
        sideOfTheStar();
        missesInTheOrderTold();
        missesAtTheAltitudeOfTheCommand();
        sizeOfTheMiss();
        notGreaterThanTheField();
        stars();
        limits();
        equalLimits();
        noMoreThanAMillion();
        countsOfAims();
        manyFlips();
        Checks.finish("AimEdgesTest");
    }

    /** Has learned this correction of the azimuth at a star that is taken back then. */
    private static BentScope corrected(int side, int what, int correction) {
        BentScope scope = new BentScope();
        scope.set(1, 100);
        scope.set(3, 0);
        scope.set(4, 5400);
        scope.setBend(side, what, correction);
        scope.aim(scope.addStar(10800 * side, 2700));
        scope.learn();
        return scope;
    }

    /** "the azimuth a - p, brought into 0 to 21599 by adding or subtracting 21600" */
    private static void azimuthsBeyondTheNorth() {
        // The side, p, the azimuth, and the turn that the command asks for.
        int[][] rows = {
            {0, 100, 100, 0}, {0, 100, 99, -1}, {0, 100, 101, 1}, {0, 120, 0, -120}, {0, 1, 0, -1}, {0, -1, 0, 1},
            {0, -120, 0, 120}, {0, 120, 10799, 10679}, {0, -120, 10799, -10681}, {0, -1, 10799, -10800},
            {1, -100, 21499, -1}, {1, -100, 21500, 0}, {1, -100, 21501, 1}, {1, -120, 21599, 119}, {1, -1, 21599, 0},
            {1, 1, 21599, -2}, {1, 120, 21599, -121}, {1, 120, 10800, 10680}, {1, -120, 10800, -10680},
        };
        for (int[] row : rows) {
            BentScope scope = corrected(row[0], 0, row[1]);
            scope.aim(scope.addStar(0, 2700));
            int star = scope.addStar(row[2], 2700);
            // From the turn -p of the star at azimuth 0 the way is told, too.
            int from = scope.value(1);
            int want = nearestTurn(from, Math.floorMod(row[2] - row[1], 21600));
            scope.set(0, 1);
            int flip = row[0] == 0 ? 0 : 60;
            Checks.due("slew", scope.slewTo(star), Math.abs(want - from) + flip);
            scope.aim(star);
            Checks.due("turn to " + row[2] + " - " + row[1], scope.value(1), want);
            Checks.due("azimuth of the command", Math.floorMod(scope.value(1) - row[3], 21600), 0);
            Checks.dueDouble("miss", scope.miss(0), 0.0);
        }
    }

    /** "the altitude h - q, but not less than 0 and not more than 5400" */
    private static void altitudesBeyondTheEnds() {
        // q, the altitude of the star, that of the command, and the miss.
        int[][] rows = {
            {100, 101, 1, 0}, {100, 100, 0, 0}, {100, 99, 0, 1}, {100, 1, 0, 99}, {100, 0, 0, 100}, {120, 0, 0, 120},
            {-100, 5299, 5399, 0}, {-100, 5300, 5400, 0}, {-100, 5301, 5400, -1}, {-100, 5400, 5400, -100},
            {-120, 5400, 5400, -120}, {1, 0, 0, 1}, {-1, 5400, 5400, -1}, {1, 5400, 5399, 0}, {-1, 0, 1, 0},
        };
        for (int[] row : rows) {
            BentScope scope = corrected(0, 2, row[0]);
            int star = scope.addStar(0, row[1]);
            int from = scope.value(2);
            scope.set(0, 1);
            Checks.dueDouble("missOf", scope.missOf(star), Math.abs(row[3]));
            Checks.due("slewTo", scope.slewTo(star), Math.abs(row[2] - from));
            Checks.due("aim", scope.aim(star), Math.abs(row[2] - from));
            Checks.due("altitude " + row[1] + " - " + row[0], scope.value(2), row[2]);
            Checks.dueDouble("miss", scope.miss(1), row[3]);
        }
    }

    /** "with the corrections that hold in its region" - not in the region of the command. */
    private static void correctionsOfTheRegion() {
        BentScope scope = Scopes.taught(new int[] {1, 4}, new int[] {50, 90}, new int[] {10, 20});
        scope.aim(scope.addStar(2700, 2700));
        Checks.due("turn, from the region 4 into 1", scope.value(1), 2610);
        Checks.due("altitude", scope.value(2), 2680);
        scope.aim(scope.addStar(2699, 1801));
        Checks.due("turn, in the region 1", scope.value(1), 2649);
        Checks.due("altitude, from the region 1 into 0", scope.value(2), 1791);
    }

    /** Tries all turns there are. */
    private static int nearestTurn(int from, int azimuth) {
        int nearest = 100000;
        for (int turn = -16200; turn <= 16200; turn++) {
            boolean looks = (turn + 21600) % 21600 == azimuth;
            if (looks && Math.abs(turn - from) < Math.abs(nearest - from)) {
                nearest = turn;
            }
        }
        return nearest;
    }

    private static void dueTurn(int from, int azimuth) {
        BentScope scope = Scopes.atTurn(from);
        int want = nearestTurn(from, azimuth);
        int star = scope.addStar(azimuth, 2700);
        scope.set(0, 1);
        int time = Math.abs(want - from) + (scope.value(3) == scope.star(star, 2) ? 0 : 60);
        String what = "from the turn " + from + " to " + azimuth;
        Checks.due("slewTo " + what, scope.slewTo(star), time);
        Checks.due("tour " + what, scope.tour(1 << star, BentScope.NONE), time);
        Checks.due("aim " + what, scope.aim(star), time);
        Checks.due("turn " + what, scope.value(1), want);
    }

    /**
     * "The new turn is, of the turns from -16200 to 16200 that look to the azimuth of the command, the one
     * that is nearest to the turn as it is"
     */
    private static void nearestTurns() {
        for (int from : TURNS) {
            for (int azimuth : AZIMUTHS) {
                dueTurn(from, azimuth);
            }
        }
    }

    /** "of two the lower one": half a turn away, and one minute of arc to both sides of it. */
    private static void lowerOfTwoTurns() {
        for (int from : TURNS) {
            int half = (from + 10800 + 21600) % 21600;
            dueTurn(from, half);
            dueTurn(from, (half + 1) % 21600);
            dueTurn(from, (half + 21599) % 21600);
        }
        BentScope scope = new BentScope();
        scope.aim(scope.addStar(10800, 2700));
        Checks.due("the lower one", scope.value(1), -10800);
        BentScope other = Scopes.atTurn(-1);
        other.aim(other.addStar(10799, 2700));
        Checks.due("the lower one", other.value(1), -10801);
    }

    /** "the turns from -16200 to 16200": the nearer way is closed behind the end of the cable. */
    private static void turnsAtTheEndsOfTheCable() {
        BentScope right = Scopes.atTurn(16200);
        right.set(0, 1);
        Checks.due("back all the way", right.aim(right.addStar(16201, 2700)), 21599);
        Checks.due("turn", right.value(1), -5399);
        BentScope left = Scopes.atTurn(-16200);
        left.set(0, 1);
        Checks.due("forth all the way", left.aim(left.addStar(5399, 2700)), 21599);
        Checks.due("turn", left.value(1), 5399);
    }

    /** "The time of the slew is the greater one of the change of the turn and of the change of the altitude" */
    private static void greaterChange() {
        int[][] rows = {{100, 2600, 100}, {100, 2601, 100}, {101, 2600, 101}, {100, 2599, 101}, {100, 2800, 100},
            {100, 2801, 101}, {0, 2800, 100}, {0, 2600, 100}, {100, 2700, 100}};
        for (int[] row : rows) {
            BentScope scope = new BentScope();
            scope.set(0, 1);
            Checks.due("time", scope.aim(scope.addStar(row[0], row[1])), row[2]);
            Checks.due("time so far", scope.value(4), row[2]);
        }
    }

    /** "divided by the speed, rounded up" */
    private static void roundedUp() {
        int[][] rows = {{60, 0, 0}, {60, 1, 1}, {60, 59, 1}, {60, 60, 1}, {60, 61, 2}, {60, 119, 2}, {60, 120, 2},
            {60, 121, 3}, {1, 0, 0}, {1, 1, 1}, {1, 10799, 10799}, {600, 1, 1}, {600, 600, 1}, {600, 601, 2},
            {599, 1198, 2}, {599, 1199, 3}, {2, 1, 1}, {2, 2, 1}, {2, 3, 2}, {7, 48, 7}, {7, 49, 7}, {7, 50, 8}};
        for (int[] row : rows) {
            BentScope scope = new BentScope();
            scope.set(0, row[0]);
            int star = scope.addStar(row[1], 2700);
            Checks.due("slewTo " + row[1] + " / " + row[0], scope.slewTo(star), row[2]);
            Checks.due("tour", scope.tour(1, BentScope.NONE), row[2]);
            Checks.due("aim", scope.aim(star), row[2]);
        }
    }

    /** "if the side of the star is another one than that of the telescope, it flips: 60 more." */
    private static void flips() {
        BentScope scope = new BentScope();
        scope.set(0, 600);
        scope.addStar(1, 2700);
        scope.addStar(21599, 2700);
        int[] stars = {0, 1, 1, 0, 0, 1};
        int[] times = {1, 61, 0, 61, 0, 61};
        int[] flips = {0, 1, 1, 2, 2, 3};
        int time = 0;
        for (int i = 0; i < stars.length; i++) {
            time += times[i];
            Checks.due("aim", scope.aim(stars[i]), times[i]);
            Checks.due("side", scope.value(3), stars[i]);
            Checks.due("flips", scope.value(7), flips[i]);
            Checks.due("time", scope.value(4), time);
        }
    }

    /** "The side is that of the star then." - also where the command is on the other one. */
    private static void sideOfTheStar() {
        BentScope scope = corrected(0, 0, 100);
        scope.setBend(0, 0, 7);
        scope.setBend(1, 0, 9);
        scope.aim(scope.addStar(99, 2700));
        Checks.due("turn", scope.value(1), -1);
        Checks.due("side", scope.value(3), 0);
        Checks.due("flips", scope.value(7), 0);
        Checks.dueDouble("bend of the side of the star", scope.miss(0), -93.0);
        scope.aim(scope.addStar(10800, 2700));
        Checks.due("side", scope.value(3), 1);
        Checks.due("flips", scope.value(7), 1);
        Checks.due("turn", scope.value(1), 10700);
        Checks.dueDouble("bend of the side of the star", scope.miss(0), -91.0);
    }

    /**
     * "The miss of the azimuth is -p + the bend of the azimuth, and that of the altitude is (the altitude of
     * the command - h) + the bend of the altitude"
     */
    private static void missesInTheOrderTold() {
        int apart = 0;
        for (int height = 620; height < 5000; height += 173) {
            BentScope scope = new BentScope();
            scope.set(1, 23);
            scope.setBend(0, 0, 20);
            scope.setBend(0, 2, 20);
            scope.aim(scope.addStar(1000, height));
            scope.learn();
            scope.setBend(0, 0, 13);
            scope.setBend(0, 1, 51);
            scope.setBend(0, 2, -17);
            scope.setBend(0, 3, 103);
            scope.aim(0);
            // The correction is 4.6 for both, p and q are 5.
            double ofAzimuth = 13 + 51.0 * (height - 5) / 5400.0;
            double ofAltitude = -17 + 103.0 * (height - 5) / 5400.0;
            Checks.dueDouble("miss of the azimuth", scope.miss(0), -5 + ofAzimuth);
            Checks.dueDouble("miss of the altitude", scope.miss(1), (height - 5 - height) + ofAltitude);
            apart += -5 + ofAzimuth != -5 + 13 + 51.0 * (height - 5) / 5400.0 ? 1 : 0;
            apart += -5 + ofAltitude != height - 5 + ofAltitude - height ? 1 : 0;
        }
        Checks.dueTrue("rows that tell the orders apart", apart > 10);
    }

    /** "both for the side of the star at the altitude of the command" */
    private static void missesAtTheAltitudeOfTheCommand() {
        BentScope scope = corrected(0, 2, 100);
        scope.setBend(0, 1, 54);
        scope.setBend(0, 3, 108);
        scope.aim(scope.addStar(0, 2800));
        Checks.dueDouble("azimuth, bent at 2700", scope.miss(0), 27.0);
        Checks.dueDouble("altitude, bent at 2700", scope.miss(1), 54.0);
        scope.aim(scope.addStar(0, 60));
        Checks.dueDouble("azimuth, bent at 0", scope.miss(0), 0.0);
        Checks.dueDouble("altitude, bent at 0", scope.miss(1), 40.0);
    }

    /** "The size of the miss is the greater one of the two without their signs." */
    private static void sizeOfTheMiss() {
        int[][] rows = {{0, 0, 0}, {3, 0, 3}, {-3, 0, 3}, {0, 4, 4}, {0, -4, 4}, {3, 4, 4}, {-4, 3, 4}, {4, -3, 4},
            {-3, -4, 4}, {5, 5, 5}, {-5, 5, 5}, {5, -5, 5}, {-5, -5, 5}, {120, -119, 120}, {119, -120, 120}};
        for (int[] row : rows) {
            BentScope scope = new BentScope();
            scope.setBend(1, 0, row[0]);
            scope.setBend(1, 2, row[1]);
            int star = scope.addStar(15000, 3000);
            Checks.dueDouble("missOf", scope.missOf(star), row[2]);
            scope.aim(star);
            Checks.dueDouble("azimuth", scope.miss(0), row[0]);
            Checks.dueDouble("altitude", scope.miss(1), row[1]);
            Checks.dueDouble("size", scope.miss(2), row[2]);
        }
    }

    /** "The star is found if it is not greater than the field." */
    private static void notGreaterThanTheField() {
        // Bend 0 and 1 at the altitude 2700 are bend 0 + bend 1 / 2.0; the field; whether it finds.
        int[][] rows = {{10, 0, 10, 1}, {-10, 0, 10, 1}, {10, 1, 10, 0}, {-10, -1, 10, 0}, {9, 1, 10, 1}, {11, 0, 10, 0},
            {11, 0, 11, 1}, {1, 0, 1, 1}, {1, 1, 1, 0}, {120, 0, 120, 1}, {120, 1, 120, 0}, {119, 2, 120, 1}};
        for (int[] row : rows) {
            BentScope scope = new BentScope();
            scope.setBend(0, row[0] == 11 ? 2 : 0, row[0]);
            scope.setBend(0, row[0] == 11 ? 3 : 1, row[1]);
            scope.set(2, row[2]);
            scope.addStar(1000, 2700);
            Checks.due("found", scope.found(), row[3]);
            scope.aim(0);
            Checks.due("finds of the star", scope.star(0, 6), row[3]);
            Checks.due("finds", scope.value(6), row[3]);
            Checks.due("learnAll", scope.learnAll(), row[3]);
        }
    }

    /** "Throws IndexOutOfBoundsException if there is no such star" */
    private static void stars() {
        BentScope scope = new BentScope();
        Checks.dueThrow("star 0 of none", INDEX, () -> scope.aim(0));
        for (int star = 0; star < 20; star++) {
            int next = star + 1;
            scope.addStar(star, 2700);
            Checks.due("the last star", scope.aim(star), star == 0 ? 0 : 1);
            Checks.dueThrow("one more", INDEX, () -> scope.aim(next));
        }
        int[] wrong = {-1, 20, 31, 32, Integer.MIN_VALUE, Integer.MAX_VALUE};
        for (int star : wrong) {
            Checks.dueThrow("star " + star, INDEX, () -> scope.aim(star));
        }
    }

    /** "Throws IllegalStateException if its altitude is below the low limit or above the high one" */
    private static void limits() {
        int[] altitudes = {599, 600, 601, 5099, 5100, 5101, 0, 5400};
        boolean[] allowed = {false, true, true, true, true, false, false, false};
        for (int i = 0; i < altitudes.length; i++) {
            BentScope scope = new BentScope();
            scope.addStar(0, altitudes[i]);
            Checks.due("within the limits", scope.star(0, 4), allowed[i] ? 1 : 0);
            Checks.due("nearest", scope.nearest(), allowed[i] ? 0 : BentScope.NONE);
            if (allowed[i]) {
                scope.aim(0);
            } else {
                Checks.dueThrow("aim at " + altitudes[i], STATE, () -> scope.aim(0));
            }
            Checks.due("aims", scope.star(0, 5), allowed[i] ? 1 : 0);
            scope.set(3, 0);
            scope.set(4, 5400);
            scope.aim(0);
            Checks.due("altitude with the widest limits", scope.value(2), altitudes[i]);
        }
    }

    /** The low limit may be equal to the high one; the star counts, not the command. */
    private static void equalLimits() {
        BentScope scope = corrected(0, 2, 50);
        scope.set(3, 2700);
        scope.set(4, 2700);
        scope.addStar(0, 2699);
        scope.addStar(0, 2701);
        scope.addStar(0, 2750);
        scope.aim(0);
        Checks.due("command", scope.value(2), 2650);
        for (int star = 1; star < 4; star++) {
            int beside = star;
            Checks.dueThrow("beside the limits", STATE, () -> scope.aim(beside));
        }
    }

    /** "or the time would be greater than 1000000" */
    private static void noMoreThanAMillion() {
        BentScope scope = Scopes.late(0);
        Checks.due("time", scope.value(4), 1000000 - 10860);
        Checks.due("just in time", scope.aim(0), 10860);
        Checks.due("time", scope.value(4), 1000000);
        Checks.due("no time at all", scope.aim(0), 0);
        Checks.dueThrow("later", STATE, () -> scope.aim(1));
        scope.set(0, 600);
        scope.addStar(1, 1820);
        Checks.due("one second", scope.slewTo(2), 1);
        Checks.dueThrow("one second too late", STATE, () -> scope.aim(2));
        BentScope other = Scopes.late(1);
        Checks.dueThrow("one second too late", STATE, () -> other.aim(0));
        Checks.due("time", other.value(4), 1000001 - 10860);
    }

    /** "5 the aims at it so far, 6 how many of these found it" and "5 the aims so far, 6 how many of these found" */
    private static void countsOfAims() {
        BentScope scope = new BentScope();
        for (int star = 0; star < 20; star++) {
            scope.addStar(100 * star, 2700);
        }
        scope.aim(0);
        scope.aim(19);
        scope.setBend(0, 0, 11);
        scope.aim(19);
        int[] aims = {1, 0, 2};
        int[] finds = {1, 0, 1};
        int[] stars = {0, 10, 19};
        for (int i = 0; i < 3; i++) {
            Checks.due("aims at " + stars[i], scope.star(stars[i], 5), aims[i]);
            Checks.due("finds of " + stars[i], scope.star(stars[i], 6), finds[i]);
        }
        Checks.due("aims", scope.value(5), 3);
        Checks.due("finds", scope.value(6), 2);
        Checks.due("star of the latest aim", scope.value(10), 19);
        // A later field does not count again.
        scope.set(2, 11);
        Checks.due("finds", scope.value(6), 2);
        Checks.due("finds of 19", scope.star(19, 6), 1);
    }

    /** "7 the flips so far", and the aims and the finds so far, as many as texts can ask for. */
    private static void manyFlips() {
        BentScope scope = new BentScope();
        scope.set(0, 600);
        scope.addStar(0, 2700);
        scope.addStar(21599, 2700);
        for (int i = 0; i < 16; i++) {
            Checks.append(scope, "a1;a0;");
        }
        for (int round = 1; round <= 300; round++) {
            Checks.due("orders", scope.carryOut(), 32);
        }
        Checks.dueValues(scope, "many flips", 2, 0, 2700, 0, 300 * 32 * 61, 300 * 32, 300 * 32, 300 * 32);
        for (int star = 0; star < 2; star++) {
            Checks.due("aims", scope.star(star, 5), 300 * 16);
            Checks.due("finds", scope.star(star, 6), 300 * 16);
        }
    }
}
