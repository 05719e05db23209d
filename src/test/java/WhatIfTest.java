/** Promises 17 to 21: the what-if questions. */
public final class WhatIfTest {
    private static final Class<IllegalArgumentException> ILLEGAL = IllegalArgumentException.class;
    private static final Class<IndexOutOfBoundsException> INDEX = IndexOutOfBoundsException.class;

    public static void main(String[] args) {
        missesAndSlews();
        found();
        nearest();
        tours();
        equalTours();
        lastTour();
        wrongTours();
        Checks.finish("WhatIfTest");
    }

    private static void missesAndSlews() {
        BentScope scope = new BentScope();
        scope.addStar(1000, 2000);
        scope.addStar(12000, 5400);
        scope.addStar(50, 0);
        scope.setBend(0, 0, -30);
        scope.setBend(1, 2, 7);
        scope.setBend(1, 3, 5);
        long before = scope.digest();
        Checks.dueDouble("missOf", scope.missOf(0), 30.0);
        Checks.dueDouble("missOf, out of the limits", scope.missOf(1), 12.0);
        Checks.due("slewTo", scope.slewTo(0), 17);
        Checks.due("slewTo, out of the limits", scope.slewTo(1), 220);
        Checks.due("slewTo, out of the limits", scope.slewTo(2), 45);
        Checks.due("nothing changed", scope.digest(), before);
        Checks.dueThrow("missOf -1", INDEX, () -> scope.missOf(-1));
        Checks.dueThrow("missOf 3", INDEX, () -> scope.missOf(3));
        Checks.dueThrow("slewTo -1", INDEX, () -> scope.slewTo(-1));
        Checks.dueThrow("slewTo 3", INDEX, () -> scope.slewTo(3));
        scope.aim(0);
        scope.learn();
        Checks.dueDouble("missOf", scope.missOf(0), 15.0);
        Checks.due("slewTo", scope.slewTo(0), 1);
    }

    private static void found() {
        BentScope scope = new BentScope();
        Checks.due("no stars", scope.found(), 0);
        scope.addStar(0, 0);
        scope.addStar(0, 2700);
        scope.addStar(0, 5400);
        scope.addStar(20000, 2700);
        scope.setBend(0, 1, 20);
        scope.setBend(1, 2, -11);
        Checks.due("found", scope.found(), 3);
        scope.set(2, 11);
        Checks.due("found", scope.found(), 11);
        scope.set(2, 9);
        Checks.due("found", scope.found(), 1);
        for (int star = 4; star < 20; star++) {
            scope.addStar(0, 0);
        }
        Checks.due("found", scope.found(), 1048561);
    }

    private static void nearest() {
        BentScope scope = new BentScope();
        Checks.due("no stars", scope.nearest(), BentScope.NONE);
        scope.addStar(0, 5101);
        Checks.due("out of the limits", scope.nearest(), BentScope.NONE);
        scope.addStar(21599, 2700);
        Checks.due("one", scope.nearest(), 1);
        scope.addStar(3600, 2700);
        Checks.due("no flip is nearer", scope.nearest(), 2);
        scope.addStar(3599, 2700);
        Checks.due("of several the lowest", scope.nearest(), 2);
        scope.addStar(3540, 2700);
        Checks.due("nearer", scope.nearest(), 4);
        scope.set(4, 5101);
        Checks.due("within the limits now", scope.nearest(), 0);
        scope.set(3, 5101);
        Checks.due("lowest limit", scope.nearest(), 0);
        scope.set(3, 0);
        for (int star = 5; star < 20; star++) {
            scope.addStar(9000, 2700);
            Checks.due("only stars that there are", scope.nearest(), 0);
        }
    }

    private static void tours() {
        BentScope scope = new BentScope();
        scope.set(0, 1);
        scope.addStar(3000, 2700);
        scope.addStar(1000, 5400);
        scope.addStar(21000, 2700);
        scope.addStar(9000, 2700);
        scope.addStar(200, 0);
        scope.addStar(15000, 2700);
        long before = scope.digest();
        Checks.due("one", scope.tour(1, BentScope.NONE), 3000);
        Checks.due("one", scope.tour(1, 0), 0);
        Checks.due("two", scope.tour(5, BentScope.NONE), 600 + 60 + 3600 + 60);
        Checks.due("two", scope.tour(5, 0), 2);
        Checks.due("two", scope.tour(5, 1), 0);
        Checks.due("a flip", scope.tour(36, BentScope.NONE), 600 + 60 + 6000);
        // Two flips are worth it: star 3 is near on the other way round the cable.
        Checks.due("five", scope.tour(59, BentScope.NONE), 2700 + 2700 + 2800 + 6860 + 6060);
        int[] order = {1, 0, 4, 5, 3};
        for (int place = 0; place < 5; place++) {
            Checks.due("five, place " + place, scope.tour(59, place), order[place]);
        }
        Checks.due("nothing changed", scope.digest(), before);
        // What holds when the tour is asked for holds for all of it: there is no learning.
        scope.setBend(0, 0, 100);
        Checks.due("bends", scope.tour(1, BentScope.NONE), 3000);
        scope.aim(0);
        scope.learn();
        Checks.due("corrections", scope.tour(9, BentScope.NONE), 50 + 6000);
    }

    private static void equalTours() {
        BentScope scope = new BentScope();
        for (int star = 0; star < 20; star++) {
            scope.addStar(0, 2700);
        }
        int all = 1 << 19 | 1 << 7 | 1 << 3 | 1 << 12 | 1;
        int[] order = {0, 3, 7, 12, 19};
        Checks.due("equal", scope.tour(all, BentScope.NONE), 0);
        for (int place = 0; place < 5; place++) {
            Checks.due("equal, place " + place, scope.tour(all, place), order[place]);
        }
        BentScope other = new BentScope();
        other.set(0, 1);
        other.addStar(2000, 1700);
        other.addStar(1000, 3700);
        other.addStar(1000, 1700);
        // 1000 + 2000 + 1000 for 1, 0, 2 and 1, 2, 0 and 2, 0, 1; 1000 + 1000 + 2000 for those.
        Checks.due("sum", other.tour(7, BentScope.NONE), 4000);
        Checks.due("first", other.tour(7, 0), 1);
        Checks.due("then", other.tour(7, 1), 0);
        Checks.due("last", other.tour(7, 2), 2);
    }

    /** The last of all orders is the shortest. */
    private static void lastTour() {
        BentScope scope = new BentScope();
        for (int star = 0; star < 5; star++) {
            scope.addStar(10000 - 2000 * star, 2700);
        }
        Checks.due("downwards", scope.tour(31, BentScope.NONE), 5 * 34);
        for (int place = 0; place < 5; place++) {
            Checks.due("downwards, place " + place, scope.tour(31, place), 4 - place);
        }
    }

    private static void wrongTours() {
        BentScope scope = new BentScope();
        Checks.dueThrow("empty", ILLEGAL, () -> scope.tour(0, -1));
        Checks.dueThrow("no star", ILLEGAL, () -> scope.tour(1, -1));
        for (int star = 0; star < 20; star++) {
            scope.addStar(100 * star, 2700);
        }
        Checks.dueThrow("empty", ILLEGAL, () -> scope.tour(0, 0));
        Checks.dueThrow("six", ILLEGAL, () -> scope.tour(63, -1));
        Checks.dueThrow("bit 20", ILLEGAL, () -> scope.tour(1 << 20, -1));
        Checks.dueThrow("bit 31", ILLEGAL, () -> scope.tour(1 << 31, -1));
        Checks.dueThrow("bit 31 and 0", ILLEGAL, () -> scope.tour(1 << 31 | 1, 0));
        Checks.dueThrow("all bits", ILLEGAL, () -> scope.tour(-1, 0));
        Checks.dueThrow("both wrong", ILLEGAL, () -> scope.tour(63, 6));
        Checks.dueThrow("place -2", INDEX, () -> scope.tour(3, -2));
        Checks.dueThrow("place 2", INDEX, () -> scope.tour(3, 2));
        Checks.dueThrow("place 5", INDEX, () -> scope.tour(31, 5));
        Checks.dueThrow("least place", INDEX, () -> scope.tour(31, Integer.MIN_VALUE));
        Checks.due("star 19", scope.tour(1 << 19, 0), 19);
    }
}
