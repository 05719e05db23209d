/**
 * A telescope that bends, and learns its bend from the stars that it missed.
 * What each call promises stands in DOC.md.
 */
public final class BentScope {
    public static final int NONE = -1;

    private static final int MAX_STARS = 20;
    private static final int MAX_TOUR = 5;
    // Five stars have 5 * 4 * 3 * 2 orders.
    private static final int MAX_ORDERS_OF_TOUR = 120;
    private static final int MAX_SAVED = 4;
    private static final int MAX_TEXT = 100;
    private static final int MAX_BYTE = 127;
    private static final int MAX_TIME = 1000000;

    private static final int FULL_TURN = 21600;
    private static final int HALF_TURN = 10800;
    private static final int CABLE = 16200;
    private static final int TOP = 5400;
    private static final int FIRST_ALTITUDE = 2700;
    private static final int FLIP_TIME = 60;

    private static final int REGIONS = 24;
    private static final int SECTORS = 8;
    private static final int BANDS = 3;
    private static final int SECTOR_WIDTH = 2700;
    private static final int BAND_HEIGHT = 1801;

    private static final int SETTINGS = 5;
    private static final int SPEED = 0;
    private static final int RATE = 1;
    private static final int FIELD = 2;
    private static final int LOW_LIMIT = 3;
    private static final int HIGH_LIMIT = 4;
    private static final int[] FIRST_SETTINGS = {60, 50, 10, 600, 5100};
    private static final int[] LOWEST_SETTINGS = {1, 1, 1, 0, 0};
    private static final int[] HIGHEST_SETTINGS = {600, 100, 120, 5400, 5400};

    private static final int SIDES = 2;
    private static final int BENDS_OF_A_SIDE = 4;
    private static final int AZIMUTH_BEND = 0;
    private static final int ALTITUDE_BEND = 2;
    private static final int MAX_BEND = 120;

    private static final int STAR_FACTS = 7;
    private static final int VALUES = 12;
    private static final int MISSES = 3;

    private static final long FIRST_HASH = 3697L;
    private static final long HASH_FACTOR = 31L;
    private static final int EXPONENT_BIAS = 1023;
    private static final int FRACTION_BITS = 52;

    private final State now = new State();
    private final State trial = new State();
    private final State[] saved = new State[MAX_SAVED];
    private int savedCount = 0;
    private final OrderText text = new OrderText();
    private final Aim whatIf = new Aim();
    private final TourSearch tourSearch = new TourSearch();

    public BentScope() {
        for (int i = 0; i < MAX_SAVED; i++) {
            saved[i] = new State();
        }
    }

    // ---- telescope

    public int set(int what, int value) throws IllegalArgumentException, IllegalStateException {
        if (!isSetting(what) || value < LOWEST_SETTINGS[what] || value > HIGHEST_SETTINGS[what]) {
            throw new IllegalArgumentException("no such setting, or its value is out of range");
        }
        if (crossesLimits(what, value)) {
            throw new IllegalStateException("the low limit would be greater than the high one");
        }
        saveState();
        int previous = now.settings[what];
        now.settings[what] = value;
        return previous;
    }

    public int setBend(int side, int what, int value) throws IllegalArgumentException {
        if (!isBend(side, what) || value < -MAX_BEND || value > MAX_BEND) {
            throw new IllegalArgumentException("no such bend, or its value is out of range");
        }
        saveState();
        int index = bendIndex(side, what);
        int previous = now.bends[index];
        now.bends[index] = value;
        return previous;
    }

    public int addStar(int azimuth, int altitude)
            throws IllegalArgumentException, IllegalStateException {
        if (azimuth < 0 || azimuth >= FULL_TURN || altitude < 0 || altitude > TOP) {
            throw new IllegalArgumentException("azimuth or altitude out of range");
        }
        if (now.stars.count >= MAX_STARS) {
            throw new IllegalStateException("there is no room for another star");
        }
        saveState();
        return now.stars.put(azimuth, altitude);
    }

    public int aim(int star) throws IndexOutOfBoundsException, IllegalStateException {
        if (!isStar(star)) {
            throw new IndexOutOfBoundsException("no such star");
        }
        if (!now.canPointAt(star)) {
            throw new IllegalStateException("star out of the limits, or too late");
        }
        saveState();
        return now.pointAt(star);
    }

    public int learn() throws IllegalStateException {
        if (!now.latest.learnable) {
            throw new IllegalStateException("no aim to learn from");
        }
        saveState();
        return now.takeLesson();
    }

    public int learnAll() throws IllegalStateException {
        trial.copyFrom(now);
        int foundStars = trial.takeAllLessons();
        if (foundStars == NONE) {
            throw new IllegalStateException("too late");
        }
        saveState();
        now.copyFrom(trial);
        return foundStars;
    }

    public int forget(int region) throws IndexOutOfBoundsException {
        if (!isRegion(region)) {
            throw new IndexOutOfBoundsException("no such region");
        }
        saveState();
        return now.regions.clear(region);
    }

    // ---- values

    public int star(int star, int what)
            throws IndexOutOfBoundsException, IllegalArgumentException {
        if (!isStar(star)) {
            throw new IndexOutOfBoundsException("no such star");
        }
        if (what < 0 || what >= STAR_FACTS) {
            throw new IllegalArgumentException("nothing of this number is known of a star");
        }
        return now.starFact(star, what);
    }

    public double correction(int region, boolean altitude) throws IndexOutOfBoundsException {
        if (!isRegion(region)) {
            throw new IndexOutOfBoundsException("no such region");
        }
        return now.regions.holding(region, altitude);
    }

    public int source(int region) throws IndexOutOfBoundsException {
        if (!isRegion(region)) {
            throw new IndexOutOfBoundsException("no such region");
        }
        return now.regions.sourceOf(region);
    }

    public int lessons(int region) throws IndexOutOfBoundsException {
        if (!isRegion(region)) {
            throw new IndexOutOfBoundsException("no such region");
        }
        return now.regions.lessonCounts[region];
    }

    public double miss(int what) throws IllegalArgumentException, IllegalStateException {
        if (what < 0 || what >= MISSES) {
            throw new IllegalArgumentException("no such miss");
        }
        if (now.latest.star == NONE) {
            throw new IllegalStateException("there was no aim");
        }
        return now.latest.missNumber(what);
    }

    public int value(int what) throws IllegalArgumentException {
        if (what < 0 || what >= VALUES) {
            throw new IllegalArgumentException("no such value");
        }
        return now.number(what);
    }

    public int setting(int what) throws IllegalArgumentException {
        if (!isSetting(what)) {
            throw new IllegalArgumentException("no such setting");
        }
        return now.settings[what];
    }

    public int bend(int side, int what) throws IllegalArgumentException {
        if (!isBend(side, what)) {
            throw new IllegalArgumentException("no such bend");
        }
        return now.bends[bendIndex(side, what)];
    }

    // ---- what if

    public double missOf(int star) throws IndexOutOfBoundsException {
        if (!isStar(star)) {
            throw new IndexOutOfBoundsException("no such star");
        }
        now.planAim(star, whatIf);
        return whatIf.size();
    }

    public int slewTo(int star) throws IndexOutOfBoundsException {
        if (!isStar(star)) {
            throw new IndexOutOfBoundsException("no such star");
        }
        return timeNow(star);
    }

    public int found() {
        int set = 0;
        for (int star = 0; star < now.stars.count; star++) {
            now.planAim(star, whatIf);
            if (now.finds(whatIf)) {
                set |= 1 << star;
            }
        }
        return set;
    }

    public int nearest() {
        int best = NONE;
        int bestTime = 0;
        for (int star = 0; star < now.stars.count; star++) {
            if (now.isWithinLimits(star)) {
                int time = timeNow(star);
                if (best == NONE || time < bestTime) {
                    best = star;
                    bestTime = time;
                }
            }
        }
        return best;
    }

    public int tour(int stars, int place)
            throws IllegalArgumentException, IndexOutOfBoundsException {
        if (stars == 0 || stars >>> now.stars.count != 0 || Integer.bitCount(stars) > MAX_TOUR) {
            throw new IllegalArgumentException("no set of one to five stars");
        }
        if (place < NONE || place >= Integer.bitCount(stars)) {
            throw new IndexOutOfBoundsException("no such place");
        }
        tourSearch.search(now, stars);
        return place == NONE ? tourSearch.bestTime : tourSearch.starAt(place);
    }

    // ---- text

    public int append(int value) throws IllegalArgumentException, IllegalStateException {
        if (value < 0 || value > MAX_BYTE) {
            throw new IllegalArgumentException("no byte of a text");
        }
        if (text.length >= MAX_TEXT) {
            throw new IllegalStateException("the text is full");
        }
        return text.put(value);
    }

    public int clearText() {
        int previous = text.length;
        text.length = 0;
        return previous;
    }

    public int carryOut() {
        int error = text.syntaxError();
        if (error != NONE) {
            return -10 - error;
        }
        saveState();
        int carried = 0;
        text.rewind();
        while (carried < MAX_TEXT && text.readOrder() && now.obey(text)) {
            carried++;
        }
        return carried;
    }

    // ---- state

    public int undo() throws IllegalStateException {
        if (savedCount == 0) {
            throw new IllegalStateException("there is no saved state");
        }
        savedCount--;
        now.copyFrom(saved[savedCount]);
        return savedCount;
    }

    public long digest() {
        long hash = mixed(FIRST_HASH, text.length);
        for (int what = 0; what < VALUES; what++) {
            hash = mixed(hash, now.number(what));
        }
        for (int what = 0; what < SETTINGS; what++) {
            hash = mixed(hash, now.settings[what]);
        }
        for (int index = 0; index < SIDES * BENDS_OF_A_SIDE; index++) {
            hash = mixed(hash, now.bends[index]);
        }
        hash = withStars(hash);
        hash = withRegions(hash);
        hash = withMisses(hash);
        return mixed(hash, savedCount);
    }

    // ---- inside

    private boolean isStar(int star) {
        return star >= 0 && star < now.stars.count;
    }

    private static boolean isRegion(int region) {
        return region >= 0 && region < REGIONS;
    }

    private static boolean isSetting(int what) {
        return what >= 0 && what < SETTINGS;
    }

    private static boolean isBend(int side, int what) {
        return side >= 0 && side < SIDES && what >= 0 && what < BENDS_OF_A_SIDE;
    }

    private static int bendIndex(int side, int what) {
        return BENDS_OF_A_SIDE * side + what;
    }

    private boolean crossesLimits(int what, int value) {
        return what == LOW_LIMIT && value > now.settings[HIGH_LIMIT]
            || what == HIGH_LIMIT && value < now.settings[LOW_LIMIT];
    }

    private int timeNow(int star) {
        now.planAim(star, whatIf);
        return now.mount.timeTo(whatIf, now.settings[SPEED]);
    }

    private void saveState() {
        if (savedCount == MAX_SAVED) {
            dropOldest();
        }
        saved[savedCount].copyFrom(now);
        savedCount++;
    }

    private void dropOldest() {
        State oldest = saved[0];
        for (int i = 1; i < MAX_SAVED; i++) {
            saved[i - 1] = saved[i];
        }
        // Its rows are used again, so that no call makes objects.
        saved[MAX_SAVED - 1] = oldest;
        savedCount--;
    }

    private static long mixed(long hash, long value) {
        return HASH_FACTOR * hash + value;
    }

    private long withStars(long start) {
        long hash = start;
        for (int star = 0; star < now.stars.count; star++) {
            for (int what = 0; what < STAR_FACTS; what++) {
                hash = mixed(hash, now.starFact(star, what));
            }
        }
        return hash;
    }

    private long withRegions(long start) {
        long hash = start;
        for (int region = 0; region < REGIONS; region++) {
            hash = mixed(hash, now.regions.lessonCounts[region]);
            hash = mixed(hash, bitsOf(now.regions.holding(region, false)));
            hash = mixed(hash, bitsOf(now.regions.holding(region, true)));
        }
        return hash;
    }

    private long withMisses(long start) {
        long hash = start;
        if (now.latest.star != NONE) {
            for (int what = 0; what < MISSES; what++) {
                hash = mixed(hash, bitsOf(now.latest.missNumber(what)));
            }
        }
        return hash;
    }

    /**
     * The bits of a double by arithmetic alone, since LANGUAGE.md has no Double.doubleToLongBits.
     * It takes no -0.0 and no infinity, and needs none: a sum is -0.0 only if both its parts are,
     * so neither corrections nor misses become it; and corrections stay below 100 millions.
     */
    private static long bitsOf(double number) {
        if (number == 0.0) {
            return 0L;
        }
        double scaled = withoutSign(number);
        int exponent = 0;
        while (scaled >= 2.0 && exponent < EXPONENT_BIAS) {
            scaled = scaled / 2.0;
            exponent++;
        }
        while (scaled < 1.0 && exponent > 1 - EXPONENT_BIAS) {
            scaled = scaled * 2.0;
            exponent--;
        }
        long one = 1L << FRACTION_BITS;
        long fraction = (long) (scaled * one) - one;
        long bits = ((long) (exponent + EXPONENT_BIAS) << FRACTION_BITS) + fraction;
        return number < 0.0 ? bits | (1L << 63) : bits;
    }

    private static double withoutSign(double number) {
        return number < 0.0 ? -number : number;
    }

    private static int rounded(double number) {
        return number >= 0.0 ? (int) (number + 0.5) : -(int) (0.5 - number);
    }

    private static int dividedUp(int number, int divisor) {
        return divisor < 1 ? 0 : (number + divisor - 1) / divisor;
    }

    private static int nearestTurn(int turn, int azimuth) {
        int lower = azimuth - FULL_TURN;
        if (lower < -CABLE) {
            return azimuth;
        }
        if (azimuth > CABLE) {
            return lower;
        }
        return Math.abs(azimuth - turn) < Math.abs(lower - turn) ? azimuth : lower;
    }

    /** All that an undo brings back. */
    private static final class State {
        private final int[] settings = new int[SETTINGS];
        private final int[] bends = new int[SIDES * BENDS_OF_A_SIDE];
        private final Stars stars = new Stars();
        private final Regions regions = new Regions();
        private final Mount mount = new Mount();
        private final Aim latest = new Aim();
        private int time = 0;
        private int flips = 0;
        // A scratch row, no part of the state.
        private final Aim next = new Aim();

        private State() {
            System.arraycopy(FIRST_SETTINGS, 0, settings, 0, SETTINGS);
        }

        private void copyFrom(State other) {
            System.arraycopy(other.settings, 0, settings, 0, SETTINGS);
            System.arraycopy(other.bends, 0, bends, 0, SIDES * BENDS_OF_A_SIDE);
            stars.copyFrom(other.stars);
            regions.copyFrom(other.regions);
            mount.copyFrom(other.mount);
            latest.copyFrom(other.latest);
            time = other.time;
            flips = other.flips;
        }

        private boolean isWithinLimits(int star) {
            int altitude = stars.altitudes[star];
            return altitude >= settings[LOW_LIMIT] && altitude <= settings[HIGH_LIMIT];
        }

        private boolean finds(Aim aim) {
            return aim.size() <= settings[FIELD];
        }

        private double bendAt(int side, int what, int altitude) {
            int index = bendIndex(side, what);
            return bends[index] + (double) bends[index + 1] * altitude / 5400.0;
        }

        private void planAim(int star, Aim plan) {
            int altitude = stars.altitudes[star];
            plan.star = star;
            plan.side = stars.sideOf(star);
            plan.region = stars.regionOf(star);
            plan.heldAzimuth = regions.holding(plan.region, false);
            plan.heldAltitude = regions.holding(plan.region, true);
            int p = rounded(plan.heldAzimuth);
            int q = rounded(plan.heldAltitude);
            plan.azimuth = Math.floorMod(stars.azimuths[star] - p, FULL_TURN);
            plan.altitude = Math.max(0, Math.min(TOP, altitude - q));
            plan.missAzimuth = -p + bendAt(plan.side, AZIMUTH_BEND, plan.altitude);
            plan.missAltitude = plan.altitude - altitude
                + bendAt(plan.side, ALTITUDE_BEND, plan.altitude);
            plan.learnable = true;
        }

        private boolean canPointAt(int star) {
            if (!isWithinLimits(star)) {
                return false;
            }
            planAim(star, next);
            return time + mount.timeTo(next, settings[SPEED]) <= MAX_TIME;
        }

        /** Only where canPointAt says yes; answers the time of the slew. */
        private int pointAt(int star) {
            planAim(star, next);
            int slew = mount.timeTo(next, settings[SPEED]);
            time += slew;
            if (next.side != mount.side) {
                flips++;
            }
            mount.moveTo(next);
            latest.copyFrom(next);
            stars.countAim(star, finds(latest));
            return slew;
        }

        /** Only where the latest aim is learnable; answers the lessons of its region then. */
        private int takeLesson() {
            latest.learnable = false;
            return regions.teach(latest, settings[RATE]);
        }

        /** Answers the number of stars found, or NONE, half done, if the time gets too late. */
        private int takeAllLessons() {
            int foundStars = 0;
            for (int star = 0; star < stars.count; star++) {
                if (!isWithinLimits(star)) {
                    continue;
                }
                if (!canPointAt(star)) {
                    return NONE;
                }
                pointAt(star);
                if (finds(latest)) {
                    foundStars++;
                }
                takeLesson();
            }
            return foundStars;
        }

        /** Answers whether the order could be carried out. */
        private boolean obey(OrderText order) {
            switch (order.kind) {
                case 's':
                    if (stars.count >= MAX_STARS) {
                        return false;
                    }
                    stars.put(order.first, order.second);
                    return true;
                case 'a':
                    if (order.first >= stars.count || !canPointAt(order.first)) {
                        return false;
                    }
                    pointAt(order.first);
                    return true;
                case 'l':
                    if (!latest.learnable) {
                        return false;
                    }
                    takeLesson();
                    return true;
                default:
                    bends[bendIndex(order.first, order.second)] = order.third;
                    return true;
            }
        }

        private int starFact(int star, int what) {
            switch (what) {
                case 0:
                    return stars.azimuths[star];
                case 1:
                    return stars.altitudes[star];
                case 2:
                    return stars.sideOf(star);
                case 3:
                    return stars.regionOf(star);
                case 4:
                    return isWithinLimits(star) ? 1 : 0;
                case 5:
                    return stars.aims[star];
                default:
                    return stars.finds[star];
            }
        }

        private int number(int what) {
            switch (what) {
                case 0:
                    return stars.count;
                case 1:
                    return mount.turn;
                case 2:
                    return mount.altitude;
                case 3:
                    return mount.side;
                case 4:
                    return time;
                case 5:
                    return stars.allAims();
                case 6:
                    return stars.allFinds();
                case 7:
                    return flips;
                case 8:
                    return regions.allLessons();
                case 9:
                    return regions.taught();
                case 10:
                    return latest.star;
                default:
                    return latest.learnable ? 1 : 0;
            }
        }
    }

    private static final class Stars {
        private int count = 0;
        private final int[] azimuths = new int[MAX_STARS];
        private final int[] altitudes = new int[MAX_STARS];
        private final int[] aims = new int[MAX_STARS];
        private final int[] finds = new int[MAX_STARS];

        private void copyFrom(Stars other) {
            count = other.count;
            System.arraycopy(other.azimuths, 0, azimuths, 0, MAX_STARS);
            System.arraycopy(other.altitudes, 0, altitudes, 0, MAX_STARS);
            System.arraycopy(other.aims, 0, aims, 0, MAX_STARS);
            System.arraycopy(other.finds, 0, finds, 0, MAX_STARS);
        }

        /** Only where there is room; answers the number of the star. */
        private int put(int azimuth, int altitude) {
            int star = count;
            azimuths[star] = azimuth;
            altitudes[star] = altitude;
            // No counts to reset: they are 0 beyond the last star, as an undo copies whole rows.
            count++;
            return star;
        }

        private int sideOf(int star) {
            return azimuths[star] < HALF_TURN ? 0 : 1;
        }

        private int regionOf(int star) {
            return BANDS * (azimuths[star] / SECTOR_WIDTH) + altitudes[star] / BAND_HEIGHT;
        }

        private void countAim(int star, boolean found) {
            aims[star]++;
            if (found) {
                finds[star]++;
            }
        }

        private int allAims() {
            int sum = 0;
            for (int star = 0; star < count; star++) {
                sum += aims[star];
            }
            return sum;
        }

        private int allFinds() {
            int sum = 0;
            for (int star = 0; star < count; star++) {
                sum += finds[star];
            }
            return sum;
        }
    }

    private static final class Regions {
        private final int[] lessonCounts = new int[REGIONS];
        private final double[] azimuths = new double[REGIONS];
        private final double[] altitudes = new double[REGIONS];

        private void copyFrom(Regions other) {
            System.arraycopy(other.lessonCounts, 0, lessonCounts, 0, REGIONS);
            System.arraycopy(other.azimuths, 0, azimuths, 0, REGIONS);
            System.arraycopy(other.altitudes, 0, altitudes, 0, REGIONS);
        }

        private int clear(int region) {
            int previous = lessonCounts[region];
            lessonCounts[region] = 0;
            azimuths[region] = 0.0;
            altitudes[region] = 0.0;
            return previous;
        }

        /** A region with a lesson is its own source: no other one is at the distance 0. */
        private int sourceOf(int region) {
            int source = NONE;
            int least = 0;
            for (int other = 0; other < REGIONS; other++) {
                if (lessonCounts[other] > 0) {
                    int distance = distance(region, other);
                    if (source == NONE || distance < least) {
                        source = other;
                        least = distance;
                    }
                }
            }
            return source;
        }

        private static int distance(int region, int other) {
            int oneWay = Math.abs(region / BANDS - other / BANDS);
            return Math.min(oneWay, SECTORS - oneWay) + Math.abs(region % BANDS - other % BANDS);
        }

        private double holding(int region, boolean altitude) {
            int source = sourceOf(region);
            if (source == NONE) {
                return 0.0;
            }
            return altitude ? altitudes[source] : azimuths[source];
        }

        private int teach(Aim aim, int rate) {
            int region = aim.region;
            if (lessonCounts[region] == 0) {
                azimuths[region] = aim.heldAzimuth;
                altitudes[region] = aim.heldAltitude;
            }
            azimuths[region] = azimuths[region] + aim.missAzimuth * rate / 100.0;
            altitudes[region] = altitudes[region] + aim.missAltitude * rate / 100.0;
            lessonCounts[region]++;
            return lessonCounts[region];
        }

        private int allLessons() {
            int sum = 0;
            for (int region = 0; region < REGIONS; region++) {
                sum += lessonCounts[region];
            }
            return sum;
        }

        private int taught() {
            int sum = 0;
            for (int region = 0; region < REGIONS; region++) {
                if (lessonCounts[region] > 0) {
                    sum++;
                }
            }
            return sum;
        }
    }

    /** An aim at a star: the command, the corrections that held for it, and what it misses. */
    private static final class Aim {
        private int star = NONE;
        private int side = 0;
        private int region = 0;
        private int azimuth = 0;
        private int altitude = 0;
        private double heldAzimuth = 0.0;
        private double heldAltitude = 0.0;
        private double missAzimuth = 0.0;
        private double missAltitude = 0.0;
        private boolean learnable = false;

        private void copyFrom(Aim other) {
            star = other.star;
            side = other.side;
            region = other.region;
            azimuth = other.azimuth;
            altitude = other.altitude;
            heldAzimuth = other.heldAzimuth;
            heldAltitude = other.heldAltitude;
            missAzimuth = other.missAzimuth;
            missAltitude = other.missAltitude;
            learnable = other.learnable;
        }

        private double size() {
            double ofAzimuth = withoutSign(missAzimuth);
            double ofAltitude = withoutSign(missAltitude);
            return ofAzimuth >= ofAltitude ? ofAzimuth : ofAltitude;
        }

        private double missNumber(int what) {
            if (what == 0) {
                return missAzimuth;
            }
            return what == 1 ? missAltitude : size();
        }
    }

    /** Where the telescope stands. */
    private static final class Mount {
        private int turn = 0;
        private int altitude = FIRST_ALTITUDE;
        private int side = 0;

        private void copyFrom(Mount other) {
            turn = other.turn;
            altitude = other.altitude;
            side = other.side;
        }

        private int timeTo(Aim aim, int speed) {
            int ofTurn = Math.abs(nearestTurn(turn, aim.azimuth) - turn);
            int ofAltitude = Math.abs(aim.altitude - altitude);
            int time = dividedUp(Math.max(ofTurn, ofAltitude), speed);
            return aim.side == side ? time : time + FLIP_TIME;
        }

        private void moveTo(Aim aim) {
            turn = nearestTurn(turn, aim.azimuth);
            altitude = aim.altitude;
            side = aim.side;
        }
    }

    /** Tries all orders of some stars, the first one first, and keeps the first of the shortest. */
    private static final class TourSearch {
        private final Aim[] plans = new Aim[MAX_TOUR];
        private final int[] order = new int[MAX_TOUR];
        private final int[] best = new int[MAX_TOUR];
        private final Mount mount = new Mount();
        private int size = 0;
        private int bestTime = NONE;

        private TourSearch() {
            for (int i = 0; i < MAX_TOUR; i++) {
                plans[i] = new Aim();
            }
        }

        private int starAt(int place) {
            return plans[best[place]].star;
        }

        private void search(State state, int stars) {
            collect(state, stars);
            bestTime = NONE;
            boolean more = true;
            for (int tried = 0; more && tried < MAX_ORDERS_OF_TOUR; tried++) {
                int time = timeOfOrder(state);
                if (bestTime == NONE || time < bestTime) {
                    bestTime = time;
                    System.arraycopy(order, 0, best, 0, MAX_TOUR);
                }
                more = stepToNextOrder();
            }
        }

        private void collect(State state, int stars) {
            size = 0;
            for (int star = 0; star < state.stars.count && size < MAX_TOUR; star++) {
                if ((stars >> star & 1) == 1) {
                    // Without learning a plan stays the same wherever the telescope stands.
                    state.planAim(star, plans[size]);
                    order[size] = size;
                    size++;
                }
            }
        }

        private int timeOfOrder(State state) {
            int time = 0;
            mount.copyFrom(state.mount);
            for (int place = 0; place < size; place++) {
                Aim plan = plans[order[place]];
                time += mount.timeTo(plan, state.settings[SPEED]);
                mount.moveTo(plan);
            }
            return time;
        }

        private boolean stepToNextOrder() {
            int left = size - 2;
            while (left >= 0 && order[left] > order[left + 1]) {
                left--;
            }
            if (left < 0) {
                return false;
            }
            int right = size - 1;
            while (right > left + 1 && order[right] < order[left]) {
                right--;
            }
            swap(left, right);
            int high = size - 1;
            for (int low = left + 1; low < high; low++) {
                swap(low, high);
                high--;
            }
            return true;
        }

        private void swap(int one, int other) {
            int kept = order[one];
            order[one] = order[other];
            order[other] = kept;
        }
    }

    /** The text, and a reader of its orders that leaves the latest one in kind, first to third. */
    private static final class OrderText {
        private final int[] bytes = new int[MAX_TEXT];
        private int length = 0;
        private int at = 0;
        private int error = NONE;
        private int kind = 0;
        private int first = 0;
        private int second = 0;
        private int third = 0;

        private int put(int value) {
            bytes[length] = value;
            length++;
            return length;
        }

        private int syntaxError() {
            rewind();
            int orders = 0;
            while (orders < MAX_TEXT && readOrder()) {
                orders++;
            }
            return error;
        }

        private void rewind() {
            at = 0;
            error = NONE;
        }

        /** Answers whether there was one more order, and it is right. */
        private boolean readOrder() {
            if (at >= length) {
                return false;
            }
            kind = bytes[at];
            switch (kind) {
                case 's':
                    at++;
                    first = readNumber(5, FULL_TURN - 1);
                    skip(',');
                    second = readNumber(4, TOP);
                    break;
                case 'a':
                    at++;
                    first = readNumber(2, 99);
                    break;
                case 'l':
                    at++;
                    break;
                case 'b':
                    at++;
                    readBend();
                    break;
                default:
                    fail(at);
                    break;
            }
            skip(';');
            return error == NONE;
        }

        private void readBend() {
            first = readDigit(SIDES - 1);
            second = readDigit(BENDS_OF_A_SIDE - 1);
            boolean negative = at < length && bytes[at] == '-';
            skip(negative ? '-' : '+');
            int number = readNumber(3, MAX_BEND);
            third = negative ? -number : number;
        }

        // After an error the readers below stand still, so that the first error is the one told.

        private void fail(int position) {
            if (error == NONE) {
                error = position;
            }
        }

        private boolean standsDigit() {
            return at < length && bytes[at] >= '0' && bytes[at] <= '9';
        }

        private void skip(int expected) {
            if (error != NONE || at >= length || bytes[at] != expected) {
                fail(at);
                return;
            }
            at++;
        }

        private int readDigit(int greatest) {
            if (error != NONE || !standsDigit() || bytes[at] - '0' > greatest) {
                fail(at);
                return 0;
            }
            at++;
            return bytes[at - 1] - '0';
        }

        private int readNumber(int maxDigits, int greatest) {
            int start = at;
            int number = 0;
            int digits = 0;
            while (error == NONE && digits < maxDigits && standsDigit()) {
                number = 10 * number + bytes[at] - '0';
                at++;
                digits++;
            }
            if (digits == 0 || standsDigit()) {
                fail(at);
            } else if (number > greatest) {
                fail(start);
            }
            return number;
        }
    }
}
