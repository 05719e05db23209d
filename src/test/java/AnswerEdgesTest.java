import java.util.function.Consumer;

/**
 * The edges that the document names of the answers: what star() to bend() tell and what the what-if
 * questions find. The sentence of the document stands over each test.
 */
public final class AnswerEdgesTest {
    private static final Class<IllegalArgumentException> ILLEGAL = IllegalArgumentException.class;
    private static final Class<IllegalStateException> STATE = IllegalStateException.class;
    private static final Class<IndexOutOfBoundsException> INDEX = IndexOutOfBoundsException.class;
    private static final int NONE = BentScope.NONE;

    public static void main(String[] args) {
        starsThereAre();
        factsOfAStar();
        missesThereAre();
        missesOfTheLatestAim();
        valuesThereAre();
        starOfTheLatestAim();
        settingsAndBendsThereAre();
        whateverTheLimitsAre();
        whateverTheTimeIs();
        eachFromThePresentState();
        foundWithTheCorrectionsThatHold();
        bitsOfAllStars();
        noNearest();
        nearestAtTheLimits();
        lowestOfSeveralNearest();
        nearestFromWhereItIs();
        nearestWithCorrections();
        setsOfATour();
        sizesOfATour();
        everyOrderOfATour();
        placesOfATour();
        firstOfSeveralTours();
        toursFromThePresentState();
        toursFromWhereItIs();
        toursWithCorrections();
        questionsChangeNothing();
        Checks.finish("AnswerEdgesTest");
    }

    /** "Throws IndexOutOfBoundsException if there is no such star": star(), missOf(), slewTo(). */
    private static void starsThereAre() {
        BentScope scope = new BentScope();
        for (int stars = 0; stars <= 20; stars++) {
            int[] wrong = {-1, stars, 20, 31, Integer.MIN_VALUE, Integer.MAX_VALUE};
            for (int star : wrong) {
                Checks.dueThrow("star " + star + " of " + stars, INDEX, () -> scope.star(star, 0));
                Checks.dueThrow("missOf " + star + " of " + stars, INDEX, () -> scope.missOf(star));
                Checks.dueThrow("slewTo " + star + " of " + stars, INDEX, () -> scope.slewTo(star));
            }
            if (stars < 20) {
                scope.addStar(stars, 2700);
                Checks.due("the last one", scope.star(stars, 0), stars);
                Checks.due("the last one", scope.slewTo(stars), stars == 0 ? 0 : 1);
                Checks.dueDouble("the last one", scope.missOf(stars), 0.0);
            }
        }
    }

    /** "0 its azimuth, 1 its altitude, 2 its side, 3 its region, 4 1 if it is within the limits" and so on */
    private static void factsOfAStar() {
        BentScope scope = new BentScope();
        scope.addStar(0, 2700);
        scope.addStar(21599, 5101);
        scope.aim(0);
        int[][] facts = {{0, 2700, 0, 1, 1, 1, 1}, {21599, 5101, 1, 23, 0, 0, 0}};
        for (int star = 0; star < 2; star++) {
            for (int what = 0; what < 7; what++) {
                Checks.due("star(" + star + ", " + what + ")", scope.star(star, what), facts[star][what]);
            }
        }
        int[] wrong = {-1, 7, Integer.MIN_VALUE, Integer.MAX_VALUE};
        for (int what : wrong) {
            Checks.dueThrow("star(0, " + what + ")", ILLEGAL, () -> scope.star(0, what));
            Checks.dueThrow("no star comes first", INDEX, () -> scope.star(2, what));
        }
    }

    /** "0 of the azimuth, 1 of the altitude, 2 the size of the miss" */
    private static void missesThereAre() {
        int[] wrong = {-1, 3, Integer.MIN_VALUE, Integer.MAX_VALUE};
        BentScope scope = new BentScope();
        for (int what : wrong) {
            Checks.dueThrow("a wrong what comes first", ILLEGAL, () -> scope.miss(what));
        }
        for (int what = 0; what < 3; what++) {
            int miss = what;
            Checks.dueThrow("no aim", STATE, () -> scope.miss(miss));
        }
        scope.setBend(0, 0, -3);
        scope.setBend(0, 2, 2);
        scope.aim(scope.addStar(0, 2700));
        double[] misses = {-3.0, 2.0, 3.0};
        for (int what = 0; what < 3; what++) {
            Checks.dueDouble("miss(" + what + ")", scope.miss(what), misses[what]);
        }
        for (int what : wrong) {
            Checks.dueThrow("miss(" + what + ")", ILLEGAL, () -> scope.miss(what));
        }
    }

    /** "Returns a miss of the latest aim." and "if there was no aim" */
    private static void missesOfTheLatestAim() {
        BentScope scope = new BentScope();
        scope.setBend(0, 0, 5);
        scope.addStar(0, 2700);
        scope.missOf(0);
        Checks.dueThrow("a question is no aim", STATE, () -> scope.miss(0));
        scope.aim(0);
        scope.setBend(0, 0, 9);
        scope.setBend(0, 2, -20);
        scope.missOf(0);
        scope.found();
        scope.tour(1, 0);
        Checks.dueDouble("as it was at the aim", scope.miss(0), 5.0);
        Checks.dueDouble("as it was at the aim", scope.miss(1), 0.0);
        Checks.dueDouble("as it was at the aim", scope.miss(2), 5.0);
        scope.learn();
        Checks.dueDouble("learned from", scope.miss(0), 5.0);
        scope.forget(1);
        Checks.dueDouble("forgotten", scope.miss(0), 5.0);
        for (int calls = 0; calls < 4; calls++) {
            scope.undo();
        }
        Checks.dueDouble("undone", scope.miss(0), 5.0);
        BentScope other = new BentScope();
        other.addStar(0, 2700);
        other.aim(0);
        other.undo();
        Checks.dueThrow("an aim that was undone", STATE, () -> other.miss(0));
    }

    /** "0 the stars, 1 the turn, ... 11 1 if it can be learned from, otherwise 0" */
    private static void valuesThereAre() {
        BentScope scope = new BentScope();
        int[] wrong = {-1, 12, Integer.MIN_VALUE, Integer.MAX_VALUE};
        for (int what : wrong) {
            Checks.dueThrow("value(" + what + ")", ILLEGAL, () -> scope.value(what));
        }
        Checks.dueValues(scope, "nothing", 0, 0, 2700, 0, 0, 0, 0, 0, 0, 0, NONE, 0);
        scope.addStar(21500, 2600);
        scope.addStar(21500, 2600);
        scope.setBend(1, 2, 12);
        scope.aim(1);
        scope.learn();
        scope.aim(1);
        // The slews took 2 and 60, then 1; the correction of 6.0 leaves a miss of 6.0, which finds.
        Checks.dueValues(scope, "something", 2, -100, 2594, 1, 63, 2, 1, 1, 1, 1, 1, 1);
    }

    /** "10 the star of the latest aim (NONE if there was none)" */
    private static void starOfTheLatestAim() {
        BentScope scope = new BentScope();
        scope.addStar(0, 2700);
        scope.addStar(0, 0);
        Checks.due("none", scope.value(10), NONE);
        Checks.dueThrow("a refused aim", STATE, () -> scope.aim(1));
        Checks.due("a refused aim is none", scope.value(10), NONE);
        scope.aim(0);
        Checks.due("star 0", scope.value(10), 0);
        Checks.dueThrow("a refused aim", STATE, () -> scope.aim(1));
        Checks.due("still star 0", scope.value(10), 0);
        scope.learn();
        Checks.due("learned from", scope.value(10), 0);
        scope.undo();
        scope.undo();
        Checks.due("none again", scope.value(10), NONE);
        Checks.due("none to learn from", scope.value(11), 0);
    }

    /** "0 to 4" of setting(), and "0 or 1", "0 to 3" of bend() */
    private static void settingsAndBendsThereAre() {
        BentScope scope = new BentScope();
        int[] wrong = {-1, 5, Integer.MIN_VALUE, Integer.MAX_VALUE};
        for (int what : wrong) {
            Checks.dueThrow("setting(" + what + ")", ILLEGAL, () -> scope.setting(what));
            Checks.dueThrow("set(" + what + ", 5)", ILLEGAL, () -> scope.set(what, 5));
        }
        int[][] bends = {{-1, 0}, {-1, 3}, {2, 0}, {2, 3}, {0, -1}, {1, -1}, {0, 4}, {1, 4}, {2, -4}, {-1, 4},
            {Integer.MAX_VALUE, 0}, {0, Integer.MAX_VALUE}, {Integer.MIN_VALUE, 0}, {1, Integer.MIN_VALUE}};
        for (int[] bend : bends) {
            Checks.dueThrow("bend(" + bend[0] + ", " + bend[1] + ")", ILLEGAL, () -> scope.bend(bend[0], bend[1]));
            Checks.dueThrow("setBend", ILLEGAL, () -> scope.setBend(bend[0], bend[1], 0));
        }
    }

    /** "Tells the size of the miss if it was aimed at a star now, whatever the limits are." and its like */
    private static void whateverTheLimitsAre() {
        BentScope scope = new BentScope();
        scope.set(3, 2700);
        scope.set(4, 2700);
        scope.setBend(0, 3, 108);
        scope.set(2, 54);
        int[] altitudes = {0, 2699, 2700, 2701, 5400};
        for (int star = 0; star < 5; star++) {
            scope.addStar(0, altitudes[star]);
            Checks.dueDouble("missOf", scope.missOf(star), altitudes[star] / 50.0);
            Checks.due("slewTo", scope.slewTo(star), (Math.abs(altitudes[star] - 2700) + 59) / 60);
            Checks.due("tour", scope.tour(1 << star, NONE), scope.slewTo(star));
        }
        Checks.due("found", scope.found(), 7);
        Checks.due("nearest keeps to the limits", scope.nearest(), 2);
        Checks.due("tour of all", scope.tour(31, NONE), 0 + 45 + 45 + 1 + 45);
    }

    /** The time 1000000 is not asked for by "Tells", "Finds": no question throws. */
    private static void whateverTheTimeIs() {
        BentScope scope = Scopes.late(0);
        scope.aim(0);
        Checks.due("time", scope.value(4), 1000000);
        Checks.due("slewTo", scope.slewTo(1), 10860);
        Checks.dueDouble("missOf", scope.missOf(1), 0.0);
        Checks.due("found", scope.found(), 3);
        Checks.due("tour", scope.tour(2, NONE), 10860);
        Checks.due("tour", scope.tour(3, 1), 1);
        scope.set(3, 1821);
        Checks.due("nearest", scope.nearest(), 1);
    }

    /** "if it was aimed at each of them now, each time from the present state, whatever the limits are" */
    private static void eachFromThePresentState() {
        BentScope scope = new BentScope();
        scope.setBend(0, 0, 10);
        scope.setBend(1, 0, 11);
        scope.addStar(0, 0);
        scope.addStar(10800, 2700);
        scope.addStar(10799, 5400);
        Checks.due("found", scope.found(), 5);
        scope.setBend(1, 0, -10);
        Checks.due("found", scope.found(), 7);
        scope.set(2, 9);
        Checks.due("none found", scope.found(), 0);
        scope.aim(1);
        scope.learn();
        // The correction -5.0 holds everywhere now.
        Checks.due("found", scope.found(), 2);
    }

    /** "if it was aimed at each of them now": with the corrections that hold in the region of each. */
    private static void foundWithTheCorrectionsThatHold() {
        BentScope scope = Scopes.taught(new int[] {1, 22}, new int[] {40, -40}, new int[] {30, -30});
        scope.setBend(0, 0, 40);
        scope.setBend(0, 2, 30);
        Checks.due("each its own", scope.found(), 3);
        // The regions 7 and 19 have no lesson: 1 and 22 are the nearest ones to them.
        scope.addStar(5400, 2700);
        scope.addStar(16200, 2700);
        Checks.due("those of the nearest region", scope.found(), 15);
        for (int star = 0; star < 4; star++) {
            Checks.dueDouble("missOf", scope.missOf(star), 0.0);
        }
        scope.forget(22);
        Checks.due("those of the region 1 for all", scope.found(), 5);
        Checks.dueDouble("missOf", scope.missOf(1), 80.0);
        scope.forget(1);
        Checks.due("none", scope.found(), 0);
        Checks.dueDouble("missOf", scope.missOf(0), 40.0);
    }

    /** "Returns the set of these stars, bit s for the star s." */
    private static void bitsOfAllStars() {
        BentScope scope = new BentScope();
        Checks.due("no star", scope.found(), 0);
        for (int star = 0; star < 20; star++) {
            scope.addStar(star % 2 == 0 ? 0 : 10800, 2700);
            Checks.due("all of them", scope.found(), (1 << star + 1) - 1);
        }
        scope.setBend(1, 0, 11);
        Checks.due("the even ones", scope.found(), 0x55555);
        scope.setBend(0, 0, 11);
        Checks.due("none", scope.found(), 0);
        scope.setBend(1, 0, 0);
        Checks.due("the odd ones", scope.found(), 0xAAAAA);
    }

    /** "NONE if there is none." */
    private static void noNearest() {
        BentScope scope = new BentScope();
        Checks.due("no star", scope.nearest(), NONE);
        scope.addStar(0, 599);
        scope.addStar(0, 5101);
        Checks.due("none within the limits", scope.nearest(), NONE);
        scope.addStar(21599, 5100);
        Checks.due("one within the limits", scope.nearest(), 2);
        scope.undo();
        Checks.due("none again", scope.nearest(), NONE);
        BentScope other = new BentScope();
        other.set(3, 0);
        other.set(4, 5400);
        Checks.due("no star within the widest limits", other.nearest(), NONE);
        other.addStar(9000, 5400);
        Checks.due("the only star", other.nearest(), 0);
    }

    /** "Finds the star within the limits to which the slew would take the least time now." */
    private static void nearestAtTheLimits() {
        BentScope scope = new BentScope();
        scope.set(3, 2600);
        scope.set(4, 2800);
        scope.addStar(0, 2599);
        scope.addStar(0, 2801);
        scope.addStar(9000, 2600);
        Checks.due("at the low limit", scope.nearest(), 2);
        scope.addStar(8000, 2800);
        Checks.due("at the high limit", scope.nearest(), 3);
        scope.set(4, 2801);
        Checks.due("the high limit is higher", scope.nearest(), 1);
        scope.set(3, 2599);
        Checks.due("the low limit is lower", scope.nearest(), 0);
        scope.aim(3);
        Checks.due("from where it is now", scope.nearest(), 3);
    }

    /** "Returns the star, of several the lowest one": the time counts, rounded up, with the flip. */
    private static void lowestOfSeveralNearest() {
        BentScope scope = new BentScope();
        scope.addStar(120, 2700);
        scope.addStar(61, 2700);
        scope.addStar(119, 2760);
        Checks.due("all take 2", scope.nearest(), 0);
        scope.addStar(60, 2640);
        scope.addStar(1, 2701);
        Checks.due("these take 1", scope.nearest(), 3);
        scope.addStar(21600 - 1, 2700);
        Checks.due("a flip takes more", scope.nearest(), 3);
        BentScope other = new BentScope();
        other.addStar(21600 - 60, 2700);
        other.addStar(61 * 60, 2700);
        Checks.due("both take 61", other.nearest(), 0);
        BentScope another = new BentScope();
        another.addStar(61 * 60 + 1, 2700);
        another.addStar(21600 - 60, 2700);
        Checks.due("62 and 61", another.nearest(), 1);
    }

    /** "to which the slew would take the least time now": from its turn, altitude and side, at its speed */
    private static void nearestFromWhereItIs() {
        BentScope high = new BentScope();
        high.aim(high.addStar(0, 5000));
        high.set(4, 4999);
        high.addStar(0, 2700);
        high.addStar(2000, 4900);
        Checks.due("from the altitude 5000", high.nearest(), 2);
        BentScope flipped = new BentScope();
        flipped.aim(flipped.addStar(21600 - 1000, 4000));
        flipped.set(4, 3999);
        flipped.addStar(100, 3900);
        flipped.addStar(21600 - 2000, 3900);
        Checks.due("from the side 1", flipped.nearest(), 2);
        BentScope fast = new BentScope();
        fast.addStar(500, 2700);
        fast.addStar(400, 2700);
        Checks.due("at the speed 60", fast.nearest(), 1);
        fast.set(0, 600);
        Checks.due("at the speed 600 both take 1", fast.nearest(), 0);
        fast.set(0, 1);
        Checks.due("at the speed 1", fast.nearest(), 1);
        BentScope turned = Scopes.atTurn(16200);
        turned.set(3, 2000);
        turned.set(4, 2600);
        turned.addStar(16201, 2600);
        turned.addStar(10801, 2600);
        Checks.due("from the turn 16200", turned.nearest(), 3);
    }

    /** The same sentence: the slew goes to the command, not to the star. */
    private static void nearestWithCorrections() {
        BentScope scope = Scopes.taught(new int[] {0, 1}, new int[] {0, 100}, new int[] {0, -100});
        scope.set(0, 1);
        scope.set(3, 1701);
        scope.set(4, 1900);
        // It is at the turn 1000 and the altitude 2700; the region 1 begins at the altitude 1801.
        scope.addStar(1000, 1790);
        scope.addStar(1000, 1801);
        Checks.due("to 2700 - 1901", scope.slewTo(3), 799);
        Checks.due("to 2700 - 1790", scope.slewTo(2), 910);
        Checks.due("nearest", scope.nearest(), 3);
        scope.set(4, 2695);
        scope.set(3, 2605);
        scope.addStar(1100, 2690);
        scope.addStar(1100, 2610);
        Checks.due("to the command 1000, 2790", scope.slewTo(4), 90);
        Checks.due("to the command 1000, 2710", scope.slewTo(5), 10);
        Checks.due("nearest by the altitude", scope.nearest(), 5);
        scope.addStar(1000, 2606);
        Checks.due("to the command 900, 2706", scope.slewTo(6), 100);
        Checks.due("nearest by the azimuth", scope.nearest(), 5);
        scope.forget(1);
        Checks.due("without corrections", scope.nearest(), 6);
    }

    /** "Throws IllegalArgumentException if stars is empty, has a star that there is not, or has more than 5" */
    private static void setsOfATour() {
        BentScope scope = new BentScope();
        Checks.dueThrow("empty, no stars", ILLEGAL, () -> scope.tour(0, NONE));
        for (int stars = 0; stars <= 20; stars++) {
            int next = 1 << stars;
            Checks.dueThrow("the next star of " + stars, ILLEGAL, () -> scope.tour(next, NONE));
            Checks.dueThrow("all stars and the next", ILLEGAL, () -> scope.tour(next | next - 1, 0));
            Checks.dueThrow("bit 31", ILLEGAL, () -> scope.tour(1 << 31, NONE));
            Checks.dueThrow("bits 31 and 0", ILLEGAL, () -> scope.tour(1 << 31 | 1, NONE));
            Checks.dueThrow("empty", ILLEGAL, () -> scope.tour(0, 0));
            if (stars > 0) {
                Checks.due("the last star", scope.tour(next >> 1, 0), stars - 1);
            }
            if (stars < 20) {
                scope.addStar(100 * stars, 2700);
            }
        }
        Checks.due("five", scope.tour(31 << 15, 4), 19);
        Checks.dueThrow("six", ILLEGAL, () -> scope.tour(63 << 14, NONE));
        Checks.dueThrow("six, scattered", ILLEGAL, () -> scope.tour(1 | 4 | 64 | 512 | 8192 | 1 << 19, NONE));
        Checks.dueThrow("all", ILLEGAL, () -> scope.tour((1 << 20) - 1, NONE));
        Checks.dueThrow("all bits", ILLEGAL, () -> scope.tour(-1, NONE));
        Checks.dueThrow("the set comes before the place", ILLEGAL, () -> scope.tour(0, 1));
        Checks.dueThrow("the set comes before the place", ILLEGAL, () -> scope.tour(63, -2));
        Checks.dueThrow("the set comes before the place", ILLEGAL, () -> scope.tour(1 << 20, 5));
    }

    /** "a set of at most 5 stars": each size has all its orders tried. */
    private static void sizesOfATour() {
        BentScope scope = new BentScope();
        scope.set(0, 1);
        int[] azimuths = {4000, 3000, 5000, 1000, 2000};
        int[] order = {3, 4, 1, 0, 2};
        for (int star = 0; star < 5; star++) {
            scope.addStar(azimuths[star], 2700);
        }
        for (int set = 1; set < 32; set++) {
            int place = 0;
            for (int star : order) {
                if ((set >> star & 1) == 1) {
                    Checks.due("set " + set + ", place " + place, scope.tour(set, place), star);
                    Checks.due("farthest", scope.tour(set, NONE) >= azimuths[star] ? 1 : 0, 1);
                    place++;
                }
            }
        }
        Checks.due("one", scope.tour(4, NONE), 5000);
        Checks.due("two", scope.tour(6, NONE), 5000);
        Checks.due("five", scope.tour(31, NONE), 5000);
    }

    /** "Finds the order of some stars": the first one and the last one, too. */
    private static void everyOrderOfATour() {
        for (int size = 1; size <= 5; size++) {
            tryOrders(new int[size], 0, 0);
        }
    }

    /** Puts each star that is not used yet at the next place, and so on until the order is full. */
    private static void tryOrders(int[] order, int place, int used) {
        if (place == order.length) {
            dueOrder(order);
            return;
        }
        for (int star = 0; star < order.length; star++) {
            if ((used >> star & 1) == 0) {
                order[place] = star;
                tryOrders(order, place + 1, used | 1 << star);
            }
        }
    }

    /** The stars stand in a row, so that going along it is the shortest. */
    private static void dueOrder(int[] order) {
        BentScope scope = new BentScope();
        int[] azimuths = new int[order.length];
        for (int place = 0; place < order.length; place++) {
            azimuths[order[place]] = 1000 * (place + 1);
        }
        for (int azimuth : azimuths) {
            scope.addStar(azimuth, 2700);
        }
        int set = (1 << order.length) - 1;
        Checks.due("the sum", scope.tour(set, NONE), 17 * order.length);
        for (int place = 0; place < order.length; place++) {
            Checks.due("place " + place, scope.tour(set, place), order[place]);
        }
    }

    /** "Throws IndexOutOfBoundsException if place is neither NONE nor a place of the order" */
    private static void placesOfATour() {
        BentScope scope = new BentScope();
        for (int star = 0; star < 5; star++) {
            scope.addStar(1000 * star, 2700);
        }
        for (int size = 1; size <= 5; size++) {
            int set = (1 << size) - 1;
            int[] wrong = {-2, size, 5, Integer.MIN_VALUE, Integer.MAX_VALUE};
            for (int place : wrong) {
                Checks.dueThrow("place " + place + " of " + size, INDEX, () -> scope.tour(set, place));
            }
            Checks.due("the first place", scope.tour(set, 0), 0);
            Checks.due("the last place", scope.tour(set, size - 1), size - 1);
            Checks.due("the sum", scope.tour(set, NONE), 17 * (size - 1));
        }
    }

    /** "of several orders in the first one, stars compared from the first place on, the lower number first" */
    private static void firstOfSeveralTours() {
        BentScope scope = new BentScope();
        for (int star = 0; star < 20; star++) {
            scope.addStar(300, 2700);
        }
        int[] sets = {1 << 19 | 1 << 4 | 1 << 11, 1 << 18 | 1 << 17 | 1 << 16 | 1 << 15 | 1 << 14, 3, 1 << 19 | 1};
        int[][] orders = {{4, 11, 19}, {14, 15, 16, 17, 18}, {0, 1}, {0, 19}};
        for (int i = 0; i < sets.length; i++) {
            Checks.due("all orders take 5", scope.tour(sets[i], NONE), 5);
            for (int place = 0; place < orders[i].length; place++) {
                Checks.due("place " + place, scope.tour(sets[i], place), orders[i][place]);
            }
        }
        // Both ways round take as long: 1000 out, 2000 back; the lower number goes first.
        BentScope other = new BentScope();
        other.set(0, 1);
        other.addStar(0, 3700);
        other.addStar(0, 1700);
        Checks.due("up first", other.tour(3, 0), 0);
        Checks.due("sum", other.tour(3, NONE), 3000);
        BentScope another = new BentScope();
        another.set(0, 1);
        another.addStar(0, 1700);
        another.addStar(0, 3700);
        Checks.due("down first", another.tour(3, 0), 0);
        another.addStar(0, 2701);
        // 1 + 999 + 2000, or 1 + 1001 + 2000, or 1000 + 999 + 1001.
        Checks.due("sum", another.tour(7, NONE), 3000);
        Checks.due("place 0", another.tour(7, 0), 0);
        Checks.due("place 1", another.tour(7, 1), 2);
        Checks.due("place 2", another.tour(7, 2), 1);
    }

    /** "in which aiming at all of them, one after the other without learning, takes the least time" */
    private static void toursFromThePresentState() {
        BentScope scope = Scopes.atTurn(16200);
        scope.set(0, 1);
        // From the end of the cable the way on is closed: turn, side and altitude count, each time anew.
        scope.addStar(16201, 2700);
        scope.addStar(10799, 2700);
        Checks.due("sum", scope.tour(12, NONE), 5401 + 60 + 16198 + 60);
        Checks.due("first", scope.tour(12, 0), 3);
        Checks.due("the other order takes longer", scope.slewTo(2), 21599);
        scope.aim(3);
        Checks.due("sum", scope.tour(12, NONE), 16198 + 60);
        Checks.due("first", scope.tour(12, 0), 3);
    }

    /** "aiming at all of them, one after the other": the first one from the altitude as it is. */
    private static void toursFromWhereItIs() {
        BentScope scope = new BentScope();
        scope.set(0, 1);
        scope.aim(scope.addStar(0, 5000));
        scope.addStar(0, 2700);
        scope.addStar(0, 4500);
        Checks.due("one", scope.tour(2, NONE), 2300);
        Checks.due("two", scope.tour(6, NONE), 2300);
        Checks.due("the higher one first", scope.tour(6, 0), 2);
        scope.aim(1);
        Checks.due("two", scope.tour(6, NONE), 1800);
        Checks.due("the lower one first", scope.tour(6, 0), 1);
        Checks.due("all, from the lowest up", scope.tour(7, NONE), 2300);
        Checks.due("the highest one last", scope.tour(7, 2), 0);
    }

    /** The same sentence: each slew goes to the command, and the next one starts there. */
    private static void toursWithCorrections() {
        BentScope scope = Scopes.taught(new int[] {1, 13}, new int[] {0, 100}, new int[] {-110, -120});
        scope.set(0, 1);
        // Back from the star 1, on the other side.
        scope.aim(0);
        Checks.due("turn", scope.value(1), 1000);
        Checks.due("altitude", scope.value(2), 2810);
        scope.addStar(1000, 2000);
        scope.addStar(1000, 2400);
        Checks.due("the star where it is", scope.tour(1, NONE), 0);
        Checks.due("to the altitude 2110", scope.tour(4, NONE), 700);
        Checks.due("by 2510 to 2110", scope.tour(12, NONE), 700);
        Checks.due("the nearer one first", scope.tour(12, 0), 3);
        // The star 1 is aimed at by the altitude 2820 and the azimuth 11700, with a flip.
        Checks.due("to the other side", scope.tour(2, NONE), 11700 - 1000 + 60);
        Checks.due("as slewTo", scope.slewTo(1), 11700 - 1000 + 60);
        // The stars 0, 3, 2, 1: the altitudes 2810, 2510, 2110, and then the other side.
        Checks.due("all", scope.tour(15, NONE), 0 + 300 + 400 + 11700 - 1000 + 60);
        Checks.due("the other side last", scope.tour(15, 3), 1);
    }

    /** "A call that throws an exception changes nothing" - and a question changes nothing at all. */
    private static void questionsChangeNothing() {
        dueNoChange("star", scope -> scope.star(3, 5));
        dueNoChange("correction", scope -> scope.correction(0, true));
        dueNoChange("source", scope -> scope.source(0));
        dueNoChange("lessons", scope -> scope.lessons(0));
        dueNoChange("miss", scope -> scope.miss(2));
        dueNoChange("value", scope -> scope.value(8));
        dueNoChange("setting", scope -> scope.setting(0));
        dueNoChange("bend", scope -> scope.bend(1, 1));
        dueNoChange("missOf", scope -> scope.missOf(0));
        dueNoChange("slewTo", scope -> scope.slewTo(1));
        dueNoChange("found", scope -> scope.found());
        dueNoChange("nearest", scope -> scope.nearest());
        dueNoChange("tour", scope -> scope.tour(31, NONE));
        dueNoChange("tour", scope -> scope.tour(7, 2));
        dueNoChange("digest", scope -> scope.digest());
    }

    private static void dueNoChange(String what, Consumer<BentScope> call) {
        Twins.dueQuestion(what, Scopes::busy, call);
    }
}
