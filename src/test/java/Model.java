import java.util.ArrayDeque;
import java.util.ArrayList;
import java.util.Collections;
import java.util.Deque;
import java.util.List;

/**
 * What DOC.md says, once more, for ModelTest: with the Java library, with states that are copied
 * as they are needed, and with other ways to the same answers where there are any.
 */
final class Model {
    private static final int[][] RANGES = {{1, 600}, {1, 100}, {1, 120}, {0, 5400}, {0, 5400}};

    private static final class Star {
        int azimuth;
        int altitude;
        int aims;
        int finds;

        Star(int azimuth, int altitude, int aims, int finds) {
            this.azimuth = azimuth;
            this.altitude = altitude;
            this.aims = aims;
            this.finds = finds;
        }

        int side() {
            return azimuth / 10800;
        }

        int region() {
            return 3 * (azimuth / 2700) + altitude / 1801;
        }
    }

    private record Place(int turn, int altitude, int side) {
    }

    private record Plan(int star, Place place, double[] held, double[] misses) {
        double size() {
            return Math.max(Math.abs(misses[0]), Math.abs(misses[1]));
        }
    }

    private static final class World implements Cloneable {
        int[] settings = {60, 50, 10, 600, 5100};
        int[] bends = new int[8];
        List<Star> stars = new ArrayList<>();
        double[][] own = new double[24][2];
        int[] lessons = new int[24];
        Place place = new Place(0, 2700, 0);
        int time = 0;
        int flips = 0;
        int aims = 0;
        int finds = 0;
        Plan latest = null;
        boolean learned = false;

        World copy() {
            World copy;
            try {
                copy = (World) clone();
            } catch (CloneNotSupportedException e) {
                throw new AssertionError(e);
            }
            copy.settings = settings.clone();
            copy.bends = bends.clone();
            copy.lessons = lessons.clone();
            copy.own = new double[24][];
            for (int region = 0; region < 24; region++) {
                copy.own[region] = own[region].clone();
            }
            copy.stars = new ArrayList<>();
            for (Star star : stars) {
                copy.stars.add(new Star(star.azimuth, star.altitude, star.aims, star.finds));
            }
            return copy;
        }
    }

    private World world = new World();
    private final Deque<World> saved = new ArrayDeque<>();
    private final StringBuilder text = new StringBuilder();

    int starCount() {
        return world.stars.size();
    }

    String answer(int method, int a, int b, int c) {
        switch (method) {
            case 0: return "" + set(a, b);
            case 1: return "" + setBend(a, b, c);
            case 2: return "" + undoable(() -> addStar(a, b));
            case 3: return "" + undoable(() -> aim(a));
            case 4: return "" + undoable(() -> learn());
            case 5: return "" + undoable(() -> learnAll());
            case 6: return "" + forget(a);
            case 7: return "" + starFact(a, b);
            case 8: return "" + held(region(a))[b > 0 ? 1 : 0];
            case 9: return "" + source(region(a));
            case 10: return "" + world.lessons[region(a)];
            case 11: return "" + miss(a);
            case 12: return "" + value(a);
            case 13: argument(a >= 0 && a < 5); return "" + world.settings[a];
            case 14: argument(a >= 0 && a < 2 && b >= 0 && b < 4); return "" + world.bends[4 * a + b];
            case 15: return "" + plan(star(a), world.place.turn()).size();
            case 16: return "" + slew(world.place, plan(star(a), world.place.turn()).place());
            case 17: return "" + found();
            case 18: return "" + nearest();
            case 19: return "" + tour(a, b);
            case 20: return "" + append(a);
            case 21: return "" + clearText();
            case 22: return "" + carryOut(ModelTest.text(a, b));
            case 23: return "" + undo();
            default: return "" + digest();
        }
    }

    private interface Work {
        int done();
    }

    /** Does the work; if it throws, all is as before. */
    private int undoable(Work work) {
        World before = world.copy();
        try {
            int answer = work.done();
            save(before);
            return answer;
        } catch (RuntimeException e) {
            world = before;
            throw e;
        }
    }

    private void save(World before) {
        saved.addLast(before);
        if (saved.size() > 4) {
            saved.removeFirst();
        }
    }

    private static void argument(boolean right) {
        if (!right) {
            throw new IllegalArgumentException();
        }
    }

    private static void state(boolean right) {
        if (!right) {
            throw new IllegalStateException();
        }
    }

    private static void index(boolean right) {
        if (!right) {
            throw new IndexOutOfBoundsException();
        }
    }

    private static int region(int region) {
        index(region >= 0 && region < 24);
        return region;
    }

    private int star(int star) {
        index(star >= 0 && star < starCount());
        return star;
    }

    private int set(int what, int value) {
        argument(what >= 0 && what < 5);
        argument(value >= RANGES[what][0] && value <= RANGES[what][1]);
        int[] changed = world.settings.clone();
        changed[what] = value;
        state(changed[3] <= changed[4]);
        save(world.copy());
        int previous = world.settings[what];
        world.settings = changed;
        return previous;
    }

    private int setBend(int side, int what, int value) {
        argument(side >= 0 && side < 2 && what >= 0 && what < 4 && value >= -120 && value <= 120);
        save(world.copy());
        int previous = world.bends[4 * side + what];
        world.bends[4 * side + what] = value;
        return previous;
    }

    private int addStar(int azimuth, int altitude) {
        argument(azimuth >= 0 && azimuth < 21600 && altitude >= 0 && altitude <= 5400);
        state(starCount() < 20);
        world.stars.add(new Star(azimuth, altitude, 0, 0));
        return starCount() - 1;
    }

    private boolean isWithinLimits(int star) {
        int altitude = world.stars.get(star).altitude;
        return !(altitude < world.settings[3] || altitude > world.settings[4]);
    }

    private int aim(int number) {
        star(number);
        state(isWithinLimits(number));
        Plan plan = plan(number, world.place.turn());
        int time = slew(world.place, plan.place());
        state(world.time + time <= 1000000);
        world.time += time;
        world.flips += plan.place().side() ^ world.place.side();
        world.place = plan.place();
        world.latest = plan;
        world.learned = false;
        world.aims++;
        Star star = world.stars.get(number);
        star.aims++;
        if (plan.size() <= world.settings[2]) {
            star.finds++;
            world.finds++;
        }
        return time;
    }

    private int learn() {
        state(world.latest != null && !world.learned);
        int region = world.stars.get(world.latest.star()).region();
        if (world.lessons[region] == 0) {
            world.own[region] = world.latest.held().clone();
        }
        for (int i = 0; i < 2; i++) {
            world.own[region][i] += world.latest.misses()[i] * world.settings[1] / 100.0;
        }
        world.learned = true;
        return ++world.lessons[region];
    }

    private int learnAll() {
        int before = world.finds;
        for (int star = 0; star < starCount(); star++) {
            if (isWithinLimits(star)) {
                aim(star);
                learn();
            }
        }
        return world.finds - before;
    }

    private int forget(int region) {
        region(region);
        save(world.copy());
        int previous = world.lessons[region];
        world.lessons[region] = 0;
        world.own[region] = new double[2];
        return previous;
    }

    private int source(int region) {
        int best = -1;
        for (int other = 23; other >= 0; other--) {
            if (world.lessons[other] > 0 && (best < 0 || distance(region, other) <= distance(region, best))) {
                best = other;
            }
        }
        return best;
    }

    private static int distance(int one, int other) {
        int steps = 0;
        while ((one / 3 + steps) % 8 != other / 3 && (one / 3 + 8 - steps) % 8 != other / 3) {
            steps++;
        }
        return steps + Math.abs(one % 3 - other % 3);
    }

    private double[] held(int region) {
        int source = source(region);
        return source < 0 ? new double[2] : world.own[source];
    }

    private static long rounded(double x) {
        return x >= 0.0 ? (long) Math.floor(x + 0.5) : -(long) Math.floor(0.5 - x);
    }

    private double bend(int index, int altitude) {
        double product = (double) world.bends[index + 1] * (double) altitude;
        double quotient = product / 5400.0;
        return world.bends[index] + quotient;
    }

    private Plan plan(int number, int from) {
        Star star = world.stars.get(number);
        double[] held = held(star.region()).clone();
        long p = rounded(held[0]);
        long q = rounded(held[1]);
        long azimuth = star.azimuth - p;
        while (azimuth < 0) {
            azimuth += 21600;
        }
        while (azimuth > 21599) {
            azimuth -= 21600;
        }
        int altitude = (int) Math.min(5400, Math.max(0, star.altitude - q));
        double[] misses = {
            -p + bend(4 * star.side(), altitude),
            altitude - star.altitude + bend(4 * star.side() + 2, altitude),
        };
        return new Plan(number, new Place(turn(azimuth, from), altitude, star.side()), held, misses);
    }

    private static int turn(long azimuth, int from) {
        for (int change = 0;; change++) {
            if (from - change >= -16200 && Math.floorMod(from - change, 21600) == azimuth) {
                return from - change;
            }
            if (from + change <= 16200 && Math.floorMod(from + change, 21600) == azimuth) {
                return from + change;
            }
        }
    }

    private int slew(Place from, Place to) {
        int change = Math.max(Math.abs(from.turn() - to.turn()), Math.abs(from.altitude() - to.altitude()));
        int time = (int) Math.ceil(change / (double) world.settings[0]);
        return from.side() == to.side() ? time : time + 60;
    }

    private int starFact(int number, int what) {
        star(number);
        argument(what >= 0 && what < 7);
        Star star = world.stars.get(number);
        int within = isWithinLimits(number) ? 1 : 0;
        return new int[] {star.azimuth, star.altitude, star.side(), star.region(), within, star.aims,
            star.finds}[what];
    }

    private double miss(int what) {
        argument(what >= 0 && what < 3);
        state(world.latest != null);
        return what == 2 ? world.latest.size() : world.latest.misses()[what];
    }

    private int value(int what) {
        argument(what >= 0 && what < 12);
        int lessons = 0;
        int taught = 0;
        for (int count : world.lessons) {
            lessons += count;
            taught += count == 0 ? 0 : 1;
        }
        int star = world.latest == null ? -1 : world.latest.star();
        int learnable = world.latest == null || world.learned ? 0 : 1;
        return new int[] {starCount(), world.place.turn(), world.place.altitude(), world.place.side(),
            world.time, world.aims, world.finds, world.flips, lessons, taught, star, learnable}[what];
    }

    private int found() {
        int set = 0;
        for (int star = 0; star < starCount(); star++) {
            set += plan(star, 0).size() > world.settings[2] ? 0 : 1 << star;
        }
        return set;
    }

    private int nearest() {
        int best = -1;
        for (int star = starCount() - 1; star >= 0; star--) {
            if (isWithinLimits(star) && (best < 0 || slewNow(star) <= slewNow(best))) {
                best = star;
            }
        }
        return best;
    }

    private int slewNow(int star) {
        return slew(world.place, plan(star, world.place.turn()).place());
    }

    private int tour(int set, int place) {
        List<Integer> stars = new ArrayList<>();
        for (int star = 0; star < 32; star++) {
            if ((set & 1 << star) != 0) {
                stars.add(star);
            }
        }
        argument(!stars.isEmpty() && stars.size() <= 5 && Collections.max(stars) < starCount());
        index(place >= -1 && place < stars.size());
        List<Integer> best = best(stars, world.place);
        return best.get(place + 1);
    }

    /** The time, and then the stars of the best order. */
    private List<Integer> best(List<Integer> stars, Place from) {
        List<Integer> best = null;
        for (int star : stars) {
            Place to = plan(star, from.turn()).place();
            List<Integer> others = new ArrayList<>(stars);
            others.remove(Integer.valueOf(star));
            List<Integer> order = best(others, to);
            order.set(0, order.get(0) + slew(from, to));
            order.add(1, star);
            if (best == null || order.get(0) < best.get(0)) {
                best = order;
            }
        }
        return best == null ? new ArrayList<>(List.of(0)) : best;
    }

    private int append(int value) {
        argument(value >= 0 && value < 128);
        state(text.length() < 100);
        text.append((char) value);
        return text.length();
    }

    private int clearText() {
        int length = text.length();
        text.setLength(0);
        return length;
    }

    /** As ModelTest does it: with another text, carried out, undone and carried out again. */
    private int carryOut(String other) {
        text.setLength(0);
        text.append(other);
        carryOut();
        undo();
        return carryOut();
    }

    private int carryOut() {
        int error = Grammar.errorIn(text.toString());
        if (error >= 0) {
            return -10 - error;
        }
        save(world.copy());
        int carried = 0;
        for (String order : text.toString().split(";")) {
            if (order.isEmpty()) {
                break;
            }
            World before = world.copy();
            try {
                obey(order);
                carried++;
            } catch (RuntimeException e) {
                world = before;
                break;
            }
        }
        return carried;
    }

    private void obey(String order) {
        switch (order.charAt(0)) {
            case 's':
                String[] numbers = order.substring(1).split(",");
                addStar(Integer.parseInt(numbers[0]), Integer.parseInt(numbers[1]));
                break;
            case 'a':
                aim(Integer.parseInt(order.substring(1)));
                break;
            case 'b':
                int what = 4 * (order.charAt(1) - '0') + order.charAt(2) - '0';
                world.bends[what] = Integer.parseInt(order.substring(3));
                break;
            default:
                learn();
                break;
        }
    }

    private int undo() {
        state(!saved.isEmpty());
        world = saved.removeLast();
        return saved.size();
    }

    long digest() {
        List<Long> values = new ArrayList<>();
        values.add((long) text.length());
        for (int what = 0; what < 12; what++) {
            values.add((long) value(what));
        }
        for (int setting : world.settings) {
            values.add((long) setting);
        }
        for (int bend : world.bends) {
            values.add((long) bend);
        }
        for (int i = 0; i < 7 * starCount(); i++) {
            values.add((long) starFact(i / 7, i % 7));
        }
        for (int region = 0; region < 24; region++) {
            values.add((long) world.lessons[region]);
            values.add(Double.doubleToLongBits(held(region)[0]));
            values.add(Double.doubleToLongBits(held(region)[1]));
        }
        for (int what = 0; what < 3 && world.latest != null; what++) {
            values.add(Double.doubleToLongBits(miss(what)));
        }
        values.add((long) saved.size());
        long h = 3697;
        for (long value : values) {
            h = 31 * h + value;
        }
        return h;
    }
}
