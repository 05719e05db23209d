import java.util.Random;

/**
 * Many random calls, whose answers are compared with those of Model, a second program after
 * DOC.md in a form of its own. After each call the digests are compared, too.
 */
public final class ModelTest {
    private static final int RUNS = 1500;
    // The document promises nothing about an object after its 512th call.
    private static final int CALLS = 512;
    private static final int MOST_CALLS_OF_A_STEP = 50;
    private static final String[] TEXTS = {
        "a0;l;a1;l;", "s5,5;", "l;", "s21599,5400;a0;", "b00+120;b12-77;", "a3;l;a2;l;a1;l;a0;l;",
        "s10800,2700;a00;l;b01-9;a00;l;", "a0;l;a0;l;a0;l;a0;l;a0;l;a0;l;a0;l;", "s9,1", "s1,99999;",
        "b13+121;", "b13-99;l;l;", "a100;", "a21;", "s21600,", "s2160x", "",
    };
    private static final String SIGNS = "sabl0123456789,;+- sab;;01290l";

    private final Random random;
    private final BentScope scope = new BentScope();
    private final Model model = new Model();
    private final int bold;
    private int calls = 0;

    private ModelTest(int run) {
        random = new Random(run);
        bold = run % 4;
    }

    public static void main(String[] args) {
        for (int run = 0; run < RUNS; run++) {
            new ModelTest(run).play(run);
        }
        Checks.finish("ModelTest");
    }

    /** Some runs learn all the time, in the slowest way, so that the time ends. */
    private int method() {
        int method = random.nextInt(25);
        return method == 0 && bold == 2 ? 5 : method;
    }

    private void play(int run) {
        if (bold == 2) {
            ofScope(0, 0, 1, 0);
            model.answer(0, 0, 1, 0);
        }
        while (calls + MOST_CALLS_OF_A_STEP <= CALLS) {
            int method = method();
            int a = argument(method, 0);
            int b = argument(method, 1);
            int c = argument(method, 2);
            String told = "run " + run + ", call " + calls + ": method " + method + " (" + a + ", "
                + b + ", " + c + ")";
            String got = answer(() -> ofScope(method, a, b, c));
            String want = answer(() -> model.answer(method, a, b, c));
            Checks.dueTrue(told + " answered " + got + ", due is " + want + ", which", got.equals(want));
            calls++;
            Checks.due(told + " and then digest()", scope.digest(), model.digest());
            if (!got.equals(want)) {
                return;
            }
        }
    }

    private interface Answer {
        String of();
    }

    private static String answer(Answer answer) {
        try {
            return answer.of();
        } catch (RuntimeException e) {
            return e.getClass().getName();
        }
    }

    private String ofScope(int method, int a, int b, int c) {
        calls++;
        switch (method) {
            case 0: return "" + scope.set(a, b);
            case 1: return "" + scope.setBend(a, b, c);
            case 2: return "" + scope.addStar(a, b);
            case 3: return "" + scope.aim(a);
            case 4: return "" + scope.learn();
            case 5: return "" + scope.learnAll();
            case 6: return "" + scope.forget(a);
            case 7: return "" + scope.star(a, b);
            case 8: return "" + scope.correction(a, b > 0);
            case 9: return "" + scope.source(a);
            case 10: return "" + scope.lessons(a);
            case 11: return "" + scope.miss(a);
            case 12: return "" + scope.value(a);
            case 13: return "" + scope.setting(a);
            case 14: return "" + scope.bend(a, b);
            case 15: return "" + scope.missOf(a);
            case 16: return "" + scope.slewTo(a);
            case 17: return "" + scope.found();
            case 18: return "" + scope.nearest();
            case 19: return "" + scope.tour(a, b);
            case 20: return "" + scope.append(a);
            case 21: return "" + scope.clearText();
            case 22: return carryOut(a, b);
            case 23: return "" + scope.undo();
            default: return "" + scope.digest();
        }
    }

    /** So that texts are longer than single appended bytes would make them. */
    private String carryOut(int a, int b) {
        String text = text(a, b);
        // clearText(), one append() for each byte, carryOut(), undo(); the last carryOut() is counted.
        calls += text.length() + 3;
        Checks.carryOut(scope, text);
        scope.undo();
        return "" + scope.carryOut();
    }

    static String text(int a, int b) {
        Random signs = new Random(a);
        StringBuilder text = new StringBuilder(TEXTS[Math.floorMod(a, TEXTS.length)]);
        if (b % 3 == 0 && text.length() > 0) {
            char sign = SIGNS.charAt(signs.nextInt(SIGNS.length()));
            text.setCharAt(signs.nextInt(text.length()), sign);
        }
        return text.toString();
    }

    private int argument(int method, int place) {
        if (random.nextInt(60) == 0) {
            int[] wild = {Integer.MIN_VALUE, -2, -1, 0, 1, 24, 128, 21600, Integer.MAX_VALUE};
            return wild[random.nextInt(wild.length)];
        }
        switch (method) {
            case 0: return place == 0 ? random.nextInt(5) : settingValue();
            case 1: return place == 0 ? random.nextInt(2) : place == 1 ? random.nextInt(4) : bend();
            case 2: return place == 0 ? azimuth() : altitude();
            case 3: case 7: case 15: case 16: return random.nextInt(place == 0 ? 1 + model.starCount() : 7);
            case 11: return random.nextInt(3);
            case 12: return random.nextInt(12);
            case 13: return random.nextInt(5);
            case 14: return random.nextInt(place == 0 ? 2 : 4);
            case 19: return place == 0 ? starSet() : random.nextInt(6) - 1;
            case 20: return random.nextInt(128);
            case 22: return random.nextInt(100000);
            default: return random.nextInt(24);
        }
    }

    private int settingValue() {
        int[] values = {1, 2, 7, 33, 50, 60, 100, 120, 600, 5100, 5400, 0};
        return random.nextInt(3) == 0 ? random.nextInt(5401) : values[random.nextInt(values.length)];
    }

    private int bend() {
        return random.nextInt(5) == 0 ? 240 * random.nextInt(2) - 120 : random.nextInt(241) - 120;
    }

    private int azimuth() {
        int[] edges = {0, 1, 5399, 5400, 10799, 10800, 16200, 16201, 21599, 100, 21500};
        return bold == 0 ? edges[random.nextInt(edges.length)] : random.nextInt(21600);
    }

    private int altitude() {
        int[] edges = {0, 5400, 600, 5100, 1800, 1801, 3601, 3602, 50, 5350, 2700};
        return bold <= 1 ? edges[random.nextInt(edges.length)] : random.nextInt(5401);
    }

    private int starSet() {
        int set = 0;
        for (int i = random.nextInt(7); i > 0; i--) {
            set |= 1 << random.nextInt(Math.max(1, model.starCount()));
        }
        return set;
    }
}
