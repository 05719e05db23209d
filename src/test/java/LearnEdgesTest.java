/**
 * The edges that the document names of learning: "Learning" of the terms, learn(), learnAll() and
 * forget(). The sentence of the document stands over each test.
 */
public final class LearnEdgesTest {
    private static final Class<IllegalStateException> STATE = IllegalStateException.class;

    public static void main(String[] args) {
        noAim();
        learnedFromOnce();
        latestAimAlone();
        missesAsTheyWereAtTheAim();
        heldCorrectionsFirst();
        heldCorrectionsAsTheyWereThen();
        ownCorrectionsOnceTaught();
        lessonInTheOrderTold();
        fullRateInTheOrderTold();
        rateOfTheLesson();
        lessonsOfTheRegionThen();
        manyLessons();
        learnAllOfNothing();
        learnAllWithinTheLimits();
        learnAllInAscendingOrder();
        learnAllOfTwentyStars();
        learnAllInTime();
        learnAllTooLate();
        foundOfThese();
        forgettingEachRegion();
        forgettingNothing();
        Checks.finish("LearnEdgesTest");
    }

    /** "Throws IllegalStateException if there was no aim, or it was learned from" */
    private static void noAim() {
        BentScope scope = new BentScope();
        Checks.dueThrow("no aim", STATE, () -> scope.learn());
        scope.addStar(0, 599);
        Checks.dueThrow("a star, but no aim", STATE, () -> scope.learn());
        Checks.dueThrow("a refused aim", STATE, () -> scope.aim(0));
        Checks.dueThrow("a refused aim is none", STATE, () -> scope.learn());
        scope.missOf(0);
        scope.found();
        scope.tour(1, 0);
        Checks.dueThrow("a question is no aim", STATE, () -> scope.learn());
        scope.set(3, 599);
        scope.aim(0);
        scope.undo();
        Checks.dueThrow("an aim that was undone", STATE, () -> scope.learn());
        Checks.due("can be learned from", scope.value(11), 0);
    }

    /** "Each aim can be learned from once." */
    private static void learnedFromOnce() {
        BentScope scope = new BentScope();
        scope.addStar(0, 2700);
        Checks.due("none yet", scope.value(11), 0);
        for (int lesson = 1; lesson <= 3; lesson++) {
            scope.aim(0);
            Checks.due("can be learned from", scope.value(11), 1);
            Checks.due("learn", scope.learn(), lesson);
            Checks.due("was learned from", scope.value(11), 0);
            Checks.dueThrow("twice", STATE, () -> scope.learn());
        }
        scope.undo();
        Checks.due("can be learned from again", scope.value(11), 1);
        Checks.due("learn", scope.learn(), 3);
        Checks.dueThrow("twice", STATE, () -> scope.learn());
        Checks.due("forget", scope.forget(1), 3);
        Checks.dueThrow("a lesson that is forgotten was one", STATE, () -> scope.learn());
    }

    /** "A lesson takes the misses of the latest aim" - an aim before it is lost. */
    private static void latestAimAlone() {
        BentScope scope = new BentScope();
        scope.setBend(0, 0, 40);
        scope.aim(scope.addStar(0, 2700));
        scope.aim(scope.addStar(6000, 4000));
        Checks.due("learn", scope.learn(), 1);
        Checks.due("region of the latest aim", scope.lessons(8), 1);
        Checks.due("region of the aim before", scope.lessons(1), 0);
        Checks.dueThrow("the aim before", STATE, () -> scope.learn());
        // A refused aim is not the latest one.
        scope.aim(0);
        Checks.dueThrow("no such star", IndexOutOfBoundsException.class, () -> scope.aim(2));
        Checks.due("learn", scope.learn(), 1);
        Checks.due("lessons", scope.lessons(1), 1);
    }

    /** "the misses of the latest aim": whatever is set between the aim and its lesson. */
    private static void missesAsTheyWereAtTheAim() {
        BentScope scope = Scopes.taught(new int[] {1}, new int[] {20}, new int[] {-20});
        scope.setBend(0, 0, 60);
        scope.setBend(0, 2, -70);
        scope.aim(0);
        scope.setBend(0, 0, 111);
        scope.setBend(0, 1, 112);
        scope.setBend(0, 2, 113);
        scope.setBend(0, 3, 114);
        scope.set(2, 120);
        scope.set(3, 5100);
        scope.missOf(0);
        Checks.due("learn", scope.learn(), 2);
        Checks.dueDouble("azimuth", scope.correction(1, false), 60.0);
        Checks.dueDouble("altitude", scope.correction(1, true), -70.0);
        Checks.dueDouble("miss of the azimuth", scope.miss(0), 40.0);
        Checks.dueDouble("miss of the altitude", scope.miss(1), -50.0);
    }

    /**
     * "if its region has no lesson yet, its corrections become those that held for this aim first (as they
     * were then, not rounded)"
     */
    private static void heldCorrectionsFirst() {
        BentScope scope = new BentScope();
        scope.set(1, 25);
        scope.setBend(0, 0, 33);
        scope.setBend(0, 2, -33);
        scope.aim(scope.addStar(1000, 2700));
        scope.learn();
        Checks.dueDouble("0.0 first", scope.correction(1, false), 8.25);
        scope.aim(scope.addStar(4000, 2700));
        scope.learn();
        // 8.25 is rounded to 8 for the miss, but kept as it is.
        Checks.dueDouble("azimuth", scope.correction(4, false), 8.25 + 25.0 * 25 / 100.0);
        Checks.dueDouble("altitude", scope.correction(4, true), -8.25 + -25.0 * 25 / 100.0);
        Checks.dueDouble("the other region stays", scope.correction(1, false), 8.25);
    }

    /** "as they were then": whatever is forgotten between the aim and its lesson. */
    private static void heldCorrectionsAsTheyWereThen() {
        int[] forgotten = {1, 4, 7};
        for (int region : forgotten) {
            // The region 4 has its own corrections at the aim, 1 has 30 and 7 has 50.
            BentScope scope = Scopes.taught(new int[] {1, 7, 4}, new int[] {30, 50, 40}, new int[] {-30, -50, -40});
            scope.setBend(0, 0, 44);
            scope.setBend(0, 2, -44);
            scope.aim(2);
            scope.forget(region);
            scope.set(1, 50);
            Checks.due("learn", scope.learn(), region == 4 ? 1 : 2);
            Checks.dueDouble("azimuth", scope.correction(4, false), 42.0);
            Checks.dueDouble("altitude", scope.correction(4, true), -42.0);
        }
        // The region 4 has no lesson, and its source is forgotten, or gets another one of a lower number.
        BentScope scope = Scopes.taught(new int[] {7}, new int[] {50}, new int[] {-50});
        scope.aim(scope.addStar(4000, 2700));
        scope.forget(7);
        Checks.due("learn", scope.learn(), 1);
        Checks.dueDouble("azimuth", scope.correction(4, false), 50.0);
        Checks.dueDouble("altitude", scope.correction(4, true), -50.0);
    }

    /** "if its region has no lesson yet": with a lesson its own corrections go on. */
    private static void ownCorrectionsOnceTaught() {
        BentScope scope = Scopes.taught(new int[] {1, 0}, new int[] {60, 20}, new int[] {10, 30});
        scope.setBend(0, 0, 70);
        scope.setBend(0, 2, 10);
        scope.aim(0);
        Checks.due("learn", scope.learn(), 2);
        Checks.dueDouble("azimuth", scope.correction(1, false), 70.0);
        Checks.dueDouble("altitude", scope.correction(1, true), 10.0);
        Checks.dueDouble("the neighbour", scope.correction(0, false), 20.0);
    }

    /** "Then the correction of the azimuth becomes correction + miss of the azimuth * rate / 100.0" */
    private static void lessonInTheOrderTold() {
        int apart = 0;
        for (int rate = 1; rate <= 100; rate++) {
            BentScope scope = new BentScope();
            scope.set(1, 23);
            scope.setBend(0, 0, 20);
            scope.setBend(0, 2, -20);
            scope.aim(scope.addStar(1000, 700 + 11 * rate));
            scope.learn();
            int region = scope.star(0, 3);
            scope.setBend(0, 0, 28);
            scope.setBend(0, 1, 31);
            scope.setBend(0, 2, -28);
            scope.setBend(0, 3, -31);
            scope.aim(0);
            double azimuth = scope.miss(0);
            double altitude = scope.miss(1);
            scope.set(1, rate);
            scope.learn();
            double first = 20.0 * 23 / 100.0;
            Checks.dueDouble("azimuth", scope.correction(region, false), first + azimuth * rate / 100.0);
            Checks.dueDouble("altitude", scope.correction(region, true), -first + altitude * rate / 100.0);
            apart += first + azimuth * rate / 100.0 != first + azimuth * (rate / 100.0) ? 1 : 0;
            apart += first + azimuth * rate / 100.0 != (first * 100.0 + azimuth * rate) / 100.0 ? 1 : 0;
        }
        Checks.dueTrue("rates that tell the orders apart", apart > 20);
    }

    /** "correction + miss of the azimuth * rate / 100.0", for the rate 100, too */
    private static void fullRateInTheOrderTold() {
        int apart = 0;
        for (int height = 600; height <= 5100; height += 50) {
            BentScope scope = new BentScope();
            scope.set(1, 100);
            scope.setBend(0, 0, 28);
            scope.setBend(0, 1, 31);
            scope.setBend(0, 2, -28);
            scope.setBend(0, 3, -31);
            scope.aim(scope.addStar(0, height));
            scope.learn();
            double miss = 28 + 31.0 * height / 5400.0;
            Checks.dueDouble("azimuth", scope.correction(0, false), miss * 100 / 100.0);
            Checks.dueDouble("altitude", scope.correction(0, true), -miss * 100 / 100.0);
            apart += miss * 100 / 100.0 != miss ? 1 : 0;
        }
        Checks.dueTrue("heights that tell them apart", apart > 5);
    }

    /** "rate (50; 1 to 100), in percent": the one that is set when it learns. */
    private static void rateOfTheLesson() {
        int[] rates = {1, 50, 99, 100};
        for (int rate : rates) {
            BentScope scope = new BentScope();
            scope.setBend(0, 0, 120);
            scope.aim(scope.addStar(0, 2700));
            scope.set(1, rate);
            scope.learn();
            Checks.dueDouble("rate " + rate, scope.correction(1, false), 120.0 * rate / 100.0);
        }
    }

    /** "Returns the lessons of the region then." */
    private static void lessonsOfTheRegionThen() {
        BentScope scope = new BentScope();
        scope.addStar(0, 700);
        scope.addStar(21599, 5000);
        int[] stars = {0, 1, 0, 0, 1};
        int[] lessons = {1, 1, 2, 3, 2};
        for (int i = 0; i < stars.length; i++) {
            scope.aim(stars[i]);
            Checks.due("learn", scope.learn(), lessons[i]);
            Checks.due("lessons", scope.lessons(stars[i] == 0 ? 0 : 23), lessons[i]);
            Checks.due("lessons of all", scope.value(8), i + 1);
            Checks.due("regions with a lesson", scope.value(9), i == 0 ? 1 : 2);
        }
    }

    /** "its lessons increase by 1", as often as 512 calls can make it */
    private static void manyLessons() {
        BentScope scope = new BentScope();
        for (int star = 0; star < 20; star++) {
            scope.addStar(0, 2700);
        }
        for (int call = 0; call < 480; call++) {
            scope.learnAll();
        }
        Checks.due("lessons", scope.lessons(1), 480 * 20);
        Checks.due("lessons of all", scope.value(8), 480 * 20);
        Checks.due("aims", scope.value(5), 480 * 20);
        Checks.due("finds", scope.value(6), 480 * 20);
        Checks.due("aims at the star 19", scope.star(19, 5), 480);
        Checks.due("finds of the star 19", scope.star(19, 6), 480);
        Checks.due("forget", scope.forget(1), 480 * 20);
    }

    /** "Aims at each star within the limits": there may be none, and then nothing changes. */
    private static void learnAllOfNothing() {
        BentScope scope = new BentScope();
        Checks.due("no star", scope.learnAll(), 0);
        Checks.dueValues(scope, "no star", 0, 0, 2700, 0, 0, 0, 0, 0, 0, 0, BentScope.NONE, 0);
        scope.addStar(100, 2700);
        scope.aim(0);
        scope.addStar(100, 599);
        scope.set(3, 2701);
        Checks.due("none within the limits", scope.learnAll(), 0);
        Checks.dueValues(scope, "none within the limits", 2, 100, 2700, 0, 2, 1, 1, 0, 0, 0, 0, 1);
        Checks.due("the latest aim waits for its lesson", scope.learn(), 1);
    }

    /** "each star within the limits" */
    private static void learnAllWithinTheLimits() {
        int[] altitudes = {599, 600, 601, 5099, 5100, 5101, 0, 5400};
        BentScope scope = new BentScope();
        for (int altitude : altitudes) {
            scope.addStar(0, altitude);
        }
        Checks.due("found", scope.learnAll(), 4);
        for (int star = 0; star < altitudes.length; star++) {
            int within = altitudes[star] >= 600 && altitudes[star] <= 5100 ? 1 : 0;
            Checks.due("aims at " + altitudes[star], scope.star(star, 5), within);
        }
        Checks.due("lessons", scope.value(8), 4);
        Checks.due("star of the latest aim", scope.value(10), 4);
    }

    /** "in ascending order, and learns from each of these aims" */
    private static void learnAllInAscendingOrder() {
        BentScope scope = new BentScope();
        BentScope other = new BentScope();
        int[] azimuths = {9000, 12000, 100, 20000, 9001};
        for (int i = 0; i < azimuths.length; i++) {
            scope.addStar(azimuths[i], 1000 + 900 * i);
            other.addStar(azimuths[i], 1000 + 900 * i);
        }
        for (int i = 0; i < 8; i++) {
            scope.setBend(i / 4, i % 4, 13 * i - 40);
            other.setBend(i / 4, i % 4, 13 * i - 40);
        }
        scope.learnAll();
        for (int star = 0; star < azimuths.length; star++) {
            other.aim(star);
            other.learn();
        }
        Checks.due("as one after the other", scope.digest(), other.digest());
        Checks.due("can be learned from", scope.value(11), 0);
        Checks.dueThrow("was learned from", STATE, () -> scope.learn());
    }

    /** All of "at most 20" stars. */
    private static void learnAllOfTwentyStars() {
        BentScope scope = new BentScope();
        for (int star = 0; star < 20; star++) {
            scope.addStar(1000 * star, 2700);
        }
        Checks.due("found", scope.learnAll(), 20);
        for (int star = 0; star < 20; star++) {
            Checks.due("aims", scope.star(star, 5), 1);
        }
        Checks.due("lessons", scope.value(8), 20);
        Checks.due("star of the latest aim", scope.value(10), 19);
        Checks.due("one saved state for all", scope.undo(), 3);
        Checks.due("lessons", scope.value(8), 0);
    }

    /** "Throws IllegalStateException if the time would be greater than 1000000": 1000000 is not. */
    private static void learnAllInTime() {
        BentScope scope = Scopes.late(0);
        scope.set(4, 1820);
        Checks.due("just in time", scope.learnAll(), 1);
        Checks.due("time", scope.value(4), 1000000);
        Checks.due("lessons", scope.value(8), 1);
        Checks.due("no time at all", scope.learnAll(), 1);
        scope.set(4, 1821);
        Checks.dueThrow("too late for the star 1", STATE, () -> scope.learnAll());
        scope.set(4, 5100);
        scope.set(3, 1822);
        Checks.due("no star is too late", scope.learnAll(), 0);
    }

    /** The same sentence, one second too late, with the state as before. */
    private static void learnAllTooLate() {
        BentScope scope = Scopes.late(0);
        // The slew to the star 0 is in time, but the one back to the star 1 is not.
        long before = scope.digest();
        Checks.dueThrow("too late on the way", STATE, () -> scope.learnAll());
        Checks.due("nothing is left of it", scope.digest(), before);
        scope.set(0, 600);
        Checks.due("fast enough", scope.learnAll(), 2);
        Checks.due("time", scope.value(4), 1000000 - 10860 + 2 * (18 + 60));
        BentScope other = Scopes.late(1);
        other.set(4, 1819);
        long late = other.digest();
        Checks.dueThrow("too late at once", STATE, () -> other.learnAll());
        Checks.due("nothing is left of it", other.digest(), late);
    }

    /** "Returns the number of these stars that were found." */
    private static void foundOfThese() {
        BentScope scope = new BentScope();
        scope.setBend(0, 0, 30);
        scope.addStar(1000, 2700);
        scope.addStar(1100, 2700);
        scope.addStar(1200, 2700);
        scope.addStar(1200, 599);
        // Misses of 30, 15, 7 or 8, and at last none of the star below the limits.
        Checks.due("found", scope.learnAll(), 1);
        Checks.due("finds", scope.value(6), 1);
        Checks.due("found", scope.learnAll(), 3);
        Checks.due("finds", scope.value(6), 4);
        scope.setBend(0, 0, -120);
        Checks.due("none found", scope.learnAll(), 0);
        Checks.due("finds", scope.value(6), 4);
        Checks.due("aims", scope.value(5), 9);
    }

    /** "Forgets the lessons of a region: its corrections and its lessons become 0." */
    private static void forgettingEachRegion() {
        for (int region = 0; region < 24; region++) {
            int beside = region % 3 == 0 ? region + 1 : region - 1;
            BentScope scope = Scopes.taught(new int[] {region, beside}, new int[] {7, 8}, new int[] {-7, -8});
            Checks.due("lessons that it had", scope.forget(region), 1);
            Checks.due("lessons", scope.lessons(region), 0);
            Checks.due("lessons of its neighbour", scope.lessons(beside), 1);
            Checks.due("source", scope.source(region), beside);
            Checks.dueDouble("azimuth", scope.correction(region, false), 8.0);
            Checks.dueDouble("altitude", scope.correction(region, true), -8.0);
            scope.forget(beside);
            Checks.dueDouble("azimuth", scope.correction(region, false), 0.0);
            Checks.dueDouble("altitude", scope.correction(region, true), 0.0);
            // Its next lesson begins anew.
            scope.setBend(0, 0, 3);
            scope.setBend(1, 0, 3);
            scope.setBend(0, 2, 4);
            scope.setBend(1, 2, 4);
            scope.aim(0);
            Checks.due("its next lesson", scope.learn(), 1);
            Checks.dueDouble("azimuth", scope.correction(region, false), 3.0);
            Checks.dueDouble("altitude", scope.correction(region, true), 4.0);
        }
    }

    /** "Returns the lessons that it had.": none at first, and none when it has forgotten them. */
    private static void forgettingNothing() {
        BentScope scope = new BentScope();
        for (int region = 0; region < 24; region++) {
            Checks.due("no lesson", scope.forget(region), 0);
        }
        scope.addStar(0, 0);
        scope.set(3, 0);
        for (int lesson = 1; lesson <= 5; lesson++) {
            scope.aim(0);
            scope.learn();
        }
        Checks.due("five lessons", scope.forget(0), 5);
        Checks.due("forgotten already", scope.forget(0), 0);
        Checks.due("aims stay", scope.star(0, 5), 5);
    }
}
