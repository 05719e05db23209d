/** Telescopes in the states from which the tests start; each call makes a new one. */
final class Scopes {
    private Scopes() {
    }

    /** Lessons, a latest aim that can be learned from, four saved states and a text. */
    static BentScope busy() {
        BentScope scope = new BentScope();
        scope.setBend(0, 0, 31);
        scope.setBend(0, 3, -45);
        scope.setBend(1, 2, 17);
        scope.addStar(1000, 2000);
        scope.addStar(12000, 4000);
        scope.addStar(20000, 599);
        scope.addStar(4000, 2000);
        scope.addStar(20000, 5101);
        scope.aim(0);
        scope.learn();
        scope.aim(1);
        scope.learn();
        scope.set(1, 70);
        scope.aim(3);
        Checks.append(scope, "b00+7;a0;l;");
        return scope;
    }

    /** As the busy one, but the latest aim was learned from. */
    static BentScope learned() {
        BentScope scope = busy();
        scope.learn();
        return scope;
    }

    /** 20 stars, and a text of 100 bytes. */
    static BentScope full() {
        BentScope scope = busy();
        for (int star = 5; star < 20; star++) {
            scope.addStar(500 * star, 250 * star);
        }
        scope.clearText();
        for (int i = 0; i < 20; i++) {
            Checks.append(scope, "a3;l;");
        }
        return scope;
    }

    /**
     * At the star 1, with the time 1000000 - 10860 + beyond; the slew to the star 0 takes 10860.
     * The speed is 1, the first of the 92 slews takes 880 + beyond, each other one 10860. The star 0 has
     * the altitude 1820 - beyond, the star 1 is 1 higher, so that the limits can part them.
     */
    static BentScope late(int beyond) {
        BentScope scope = new BentScope();
        scope.set(0, 1);
        scope.addStar(0, 2700 - 880 - beyond);
        scope.addStar(10800, 2701 - 880 - beyond);
        for (int slew = 0; slew < 92; slew++) {
            scope.aim(slew % 2);
        }
        Checks.append(scope, "a1;a0;a0;a1;");
        return scope;
    }

    /**
     * Aims twice, so that the turn is this one: the first aim is far enough on the way for the
     * second one to go on instead of turning back.
     */
    static BentScope atTurn(int turn) {
        BentScope scope = new BentScope();
        scope.aim(scope.addStar(turn >= 0 ? 8000 : 13600, 2700));
        scope.aim(scope.addStar(turn >= 0 ? turn : turn + 21600, 2700));
        Checks.due("the turn to start from", scope.value(1), turn);
        return scope;
    }

    /** One lesson in each of these regions, in their order; the rate is 100, the misses as told. */
    static BentScope taught(int[] regions, int[] azimuthMisses, int[] altitudeMisses) {
        BentScope scope = new BentScope();
        int[] altitudes = {900, 2700, 4500};
        scope.set(1, 100);
        for (int i = 0; i < regions.length; i++) {
            int azimuth = 2700 * (regions[i] / 3) + 1000;
            int side = azimuth < 10800 ? 0 : 1;
            int star = scope.addStar(azimuth, altitudes[regions[i] % 3]);
            scope.setBend(side, 0, azimuthMisses[i]);
            scope.setBend(side, 2, altitudeMisses[i]);
            scope.aim(star);
            scope.learn();
        }
        return scope;
    }
}
