/**
 * The edges that "Terms" names of the regions and of the corrections that hold in them. The sentence
 * of the document stands over each test.
 */
public final class RegionEdgesTest {
    private static final Class<IndexOutOfBoundsException> INDEX = IndexOutOfBoundsException.class;
    // How far the sectors are from each other, by the difference of their numbers.
    private static final int[] SECTORS_APART = {0, 1, 2, 3, 4, 3, 2, 1};

    public static void main(String[] args) {
        edgesOfRegions();
        numbersOfRegions();
        nothingAtFirst();
        ownCorrections();
        oneRegionHoldsForAll();
        nearestOfTwo();
        nearestOfThree();
        manyAsNear();
        acrossTheNorth();
        oppositeSectors();
        noLessonLeft();
        Checks.finish("RegionEdgesTest");
    }

    /** "region 3 * (azimuth / 2700) + altitude / 1801" */
    private static void edgesOfRegions() {
        int[][] bands = {{0, 0}, {1800, 0}, {1801, 1}, {3601, 1}, {3602, 2}, {5400, 2}};
        for (int[] band : bands) {
            BentScope scope = new BentScope();
            for (int sector = 0; sector < 8; sector++) {
                int first = scope.addStar(2700 * sector, band[0]);
                int last = scope.addStar(2700 * sector + 2699, band[0]);
                Checks.due("first of the sector", scope.star(first, 3), 3 * sector + band[1]);
                Checks.due("last of the sector", scope.star(last, 3), 3 * sector + band[1]);
            }
        }
    }

    /** "The sky has 24 regions" */
    private static void numbersOfRegions() {
        BentScope scope = Scopes.taught(new int[] {0, 23}, new int[] {1, 2}, new int[] {3, 4});
        int[] wrong = {-1, 24, Integer.MIN_VALUE, Integer.MAX_VALUE};
        for (int region : wrong) {
            Checks.dueThrow("correction", INDEX, () -> scope.correction(region, false));
            Checks.dueThrow("correction", INDEX, () -> scope.correction(region, true));
            Checks.dueThrow("source", INDEX, () -> scope.source(region));
            Checks.dueThrow("lessons", INDEX, () -> scope.lessons(region));
            Checks.dueThrow("forget", INDEX, () -> scope.forget(region));
        }
        Checks.due("source of the first", scope.source(0), 0);
        Checks.due("source of the last", scope.source(23), 23);
        Checks.due("lessons of the first", scope.lessons(0), 1);
        Checks.due("lessons of the last", scope.lessons(23), 1);
        Checks.due("the first forgets", scope.forget(0), 1);
        Checks.due("the last forgets", scope.forget(23), 1);
    }

    /** "Each has two corrections, for azimuth and altitude, 0.0 at first, and a number of lessons, 0 at first." */
    private static void nothingAtFirst() {
        BentScope scope = new BentScope();
        for (int region = 0; region < 24; region++) {
            Checks.due("lessons at first", scope.lessons(region), 0);
            Checks.due("source at first", scope.source(region), BentScope.NONE);
            Checks.dueDouble("azimuth at first", scope.correction(region, false), 0.0);
            Checks.dueDouble("altitude at first", scope.correction(region, true), 0.0);
        }
    }

    /** "The corrections that hold in a region are its own ones if it has a lesson." */
    private static void ownCorrections() {
        // Also if they are 0.0, and whatever the neighbours of a lower number have.
        BentScope scope = Scopes.taught(new int[] {0, 1, 3, 4}, new int[] {9, 8, 7, 0}, new int[] {5, 6, 7, 0});
        Checks.due("its own", scope.source(4), 4);
        Checks.dueDouble("azimuth", scope.correction(4, false), 0.0);
        Checks.dueDouble("altitude", scope.correction(4, true), 0.0);
        Checks.due("its own", scope.source(1), 1);
        Checks.dueDouble("azimuth", scope.correction(1, false), 8.0);
        Checks.dueDouble("altitude", scope.correction(1, true), 6.0);
    }

    /** "Otherwise they are those of the nearest region with a lesson" */
    private static void oneRegionHoldsForAll() {
        for (int taught = 0; taught < 24; taught++) {
            BentScope scope = Scopes.taught(new int[] {taught}, new int[] {11}, new int[] {-12});
            for (int region = 0; region < 24; region++) {
                Checks.due("the only source", scope.source(region), taught);
                Checks.dueDouble("azimuth", scope.correction(region, false), 11.0);
                Checks.dueDouble("altitude", scope.correction(region, true), -12.0);
                Checks.due("lessons", scope.lessons(region), region == taught ? 1 : 0);
            }
        }
    }

    private static int distance(int one, int other) {
        return SECTORS_APART[Math.abs(one / 3 - other / 3)] + Math.abs(one % 3 - other % 3);
    }

    /** Asks every region of a telescope that has a lesson in each of these, in whatever order. */
    private static void dueNearest(int... taught) {
        int[] azimuths = new int[taught.length];
        int[] altitudes = new int[taught.length];
        for (int i = 0; i < taught.length; i++) {
            azimuths[i] = taught[i] + 1;
            altitudes[i] = -taught[i] - 2;
        }
        BentScope scope = Scopes.taught(taught, azimuths, altitudes);
        for (int region = 0; region < 24; region++) {
            int nearest = taught[0];
            for (int other : taught) {
                int difference = distance(region, other) - distance(region, nearest);
                if (difference < 0 || difference == 0 && other < nearest) {
                    nearest = other;
                }
            }
            Checks.due("source", scope.source(region), nearest);
            Checks.dueDouble("azimuth", scope.correction(region, false), nearest + 1.0);
            Checks.dueDouble("altitude", scope.correction(region, true), -nearest - 2.0);
        }
    }

    /**
     * "the distance of two regions is the number of sectors from one to the other the shorter way round
     * the 8 sectors (a region r is in the sector r / 3), plus the difference of r % 3"
     */
    private static void nearestOfTwo() {
        for (int one = 0; one < 24; one++) {
            for (int other = 0; other < 24; other++) {
                if (one != other) {
                    dueNearest(one, other);
                }
            }
        }
    }

    /** "of several nearest regions the one with the lowest number is taken" */
    private static void nearestOfThree() {
        for (int low = 0; low < 22; low++) {
            for (int middle = low + 1; middle < 23; middle++) {
                for (int high = middle + 1; high < 24; high++) {
                    dueNearest(high, low, middle);
                }
            }
        }
    }

    /** "of several nearest regions the one with the lowest number is taken": four at the distance 1. */
    private static void manyAsNear() {
        int[] around = {13, 11, 9, 7};
        BentScope scope = Scopes.taught(around, new int[] {1, 2, 3, 4}, new int[] {5, 6, 7, 8});
        Checks.due("the lowest of four", scope.source(10), 7);
        scope.forget(7);
        Checks.due("the lowest of three", scope.source(10), 9);
        scope.forget(9);
        Checks.due("the lowest of two", scope.source(10), 11);
        scope.forget(11);
        Checks.due("the only one", scope.source(10), 13);
    }

    /** "the shorter way round the 8 sectors": the sectors 7 and 0 are neighbours. */
    private static void acrossTheNorth() {
        BentScope scope = Scopes.taught(new int[] {6, 22}, new int[] {1, 2}, new int[] {3, 4});
        Checks.due("from 0 to 7 is nearer than from 0 to 2", scope.source(1), 22);
        Checks.due("from 3 to 2 is nearer than from 3 to 7", scope.source(9), 6);
        BentScope other = Scopes.taught(new int[] {1, 15}, new int[] {1, 2}, new int[] {3, 4});
        Checks.due("from 7 to 0 is nearer than from 7 to 5", other.source(22), 1);
    }

    /** "the shorter way round the 8 sectors": four sectors are the most, either way. */
    private static void oppositeSectors() {
        for (int sector = 0; sector < 8; sector++) {
            int region = 3 * sector;
            int opposite = 3 * ((sector + 4) % 8);
            // At a distance of 3 + 2, of 3 + 1 and of 4 + 0.
            int three = 3 * ((sector + 3) % 8);
            BentScope far = Scopes.taught(new int[] {three + 2, opposite}, new int[] {1, 2}, new int[] {3, 4});
            Checks.due("4 is less than 3 + 2", far.source(region), opposite);
            BentScope equal = Scopes.taught(new int[] {three + 1, opposite}, new int[] {1, 2}, new int[] {3, 4});
            Checks.due("4 is as much as 3 + 1", equal.source(region), Math.min(three + 1, opposite));
        }
    }

    /** "If no region has a lesson, both are 0.0." */
    private static void noLessonLeft() {
        BentScope scope = Scopes.taught(new int[] {5, 17}, new int[] {20, -30}, new int[] {-40, 50});
        scope.forget(5);
        Checks.due("one is left", scope.source(5), 17);
        Checks.dueDouble("azimuth", scope.correction(5, false), -30.0);
        scope.forget(17);
        for (int region = 0; region < 24; region++) {
            Checks.due("none is left", scope.source(region), BentScope.NONE);
            Checks.dueDouble("azimuth", scope.correction(region, false), 0.0);
            Checks.dueDouble("altitude", scope.correction(region, true), 0.0);
        }
        Checks.due("lessons", scope.value(8), 0);
        Checks.due("regions with a lesson", scope.value(9), 0);
        scope.undo();
        Checks.due("one again", scope.source(5), 17);
    }
}
