/** Promises 22 to 24: the text, its syntax and its orders. */
public final class TextTest {
    private static final Class<IllegalArgumentException> ILLEGAL = IllegalArgumentException.class;
    private static final Class<IllegalStateException> STATE = IllegalStateException.class;

    public static void main(String[] args) {
        appending();
        clearing();
        syntaxErrors();
        rightTexts();
        orders();
        ordersThatFail();
        savedStates();
        fullTexts();
        textsAfterTexts();
        Checks.finish("TextTest");
    }

    private static void appending() {
        BentScope scope = new BentScope();
        Checks.due("append", scope.append(0), 1);
        Checks.due("append", scope.append(127), 2);
        Checks.dueRefusal(scope, "append -1", ILLEGAL, () -> scope.append(-1));
        Checks.dueRefusal(scope, "append 128", ILLEGAL, () -> scope.append(128));
        for (int length = 3; length <= 100; length++) {
            Checks.due("append", scope.append('l'), length);
        }
        Checks.dueRefusal(scope, "append to 100", STATE, () -> scope.append('l'));
        Checks.dueRefusal(scope, "append 128 to 100", ILLEGAL, () -> scope.append(128));
        Checks.dueThrow("append is not undoable", STATE, () -> scope.undo());
    }

    private static void clearing() {
        BentScope scope = new BentScope();
        Checks.append(scope, "b00+5;");
        Checks.due("clearText", scope.clearText(), 6);
        Checks.due("clearText", scope.clearText(), 0);
        Checks.due("no orders", scope.carryOut(), 0);
        Checks.due("append", scope.append('b'), 1);
        Checks.due("undo", scope.undo(), 0);
        Checks.due("the text is not undone", scope.clearText(), 1);
        Checks.dueThrow("clearText is not undoable", STATE, () -> scope.undo());
    }

    private static void dueSyntaxError(String text, int position) {
        BentScope scope = new BentScope();
        Checks.append(scope, text);
        long before = scope.digest();
        Checks.due("carryOut of " + text, scope.carryOut(), -10 - position);
        Checks.due("state after " + text, scope.digest(), before);
    }

    private static void syntaxErrors() {
        Object[][] rows = {
            {"x", 0}, {" ", 0}, {";", 0}, {"0", 0}, {"L;", 0}, {"\0", 0}, {"l", 1}, {"l ", 1}, {"ll;", 1},
            {"l;;", 2}, {"l;l", 3}, {"l1;", 1},
            {"a", 1}, {"a;", 1}, {"a0", 2}, {"a00", 3}, {"a000", 3}, {"a100;", 3}, {"a-1;", 1}, {"a0,", 2},
            {"a:;", 1}, {"a/;", 1}, {"a0:", 2}, {"a0/", 2},
            {"s", 1}, {"s;", 1}, {"s,", 1}, {"s5", 2}, {"s5;", 2}, {"s5,", 3}, {"s5,;", 3}, {"s5,5", 4},
            {"s5,5,", 4}, {"s21599", 6}, {"s21599,5400", 11},
            {"s21600", 1}, {"s21600,0;", 1}, {"s21600x", 1}, {"s21600;", 1}, {"s99999,99999;", 1},
            {"s000000,0;", 6}, {"s216000,0;", 6}, {"s999999", 6},
            {"s0,5401;", 3}, {"s0,5401", 3}, {"s0,5401x", 3}, {"s0,05400;", 7}, {"s0,54010", 7},
            {"s0,9999,", 3}, {"s 0,0;", 1}, {"s0, 0;", 3}, {"s-1,0;", 1}, {"s0,-1;", 3},
            {"b", 1}, {"b2", 1}, {"b2x", 1}, {"b;", 1}, {"b0", 2}, {"b04", 2}, {"b14+0;", 2}, {"b0;", 2},
            {"b13", 3}, {"b13;", 3}, {"b130", 3}, {"b13 0;", 3}, {"b13+", 4}, {"b13-", 4}, {"b13+;", 4},
            {"b13++0;", 4}, {"b13+-", 4}, {"b13+120", 7}, {"b13+121", 4}, {"b13+121;", 4}, {"b13-121x", 4},
            {"b13-999;", 4}, {"b13+1200", 7}, {"b13+0000;", 7}, {"b13+0120;", 7}, {"b13+1210", 7},
            {"l;a0;b00+0;s0,0;s", 17}, {"l;a0;b00+0;s0,0; ", 16}, {"s0,0;s21600,0;", 6},
            {"l\n", 1}, {"l;\n", 2},
        };
        for (Object[] row : rows) {
            dueSyntaxError((String) row[0], (Integer) row[1]);
        }
    }

    private static void rightTexts() {
        BentScope scope = new BentScope();
        Checks.due("none", Checks.carryOut(scope, ""), 0);
        Checks.due("stars", Checks.carryOut(scope, "s00000,0000;s21599,5400;s7,9;s00012,034;"), 4);
        int[] facts = {0, 0, 21599, 5400, 7, 9, 12, 34};
        for (int i = 0; i < facts.length; i++) {
            Checks.due("star", scope.star(i / 2, i % 2), facts[i]);
        }
        Checks.due("bends", Checks.carryOut(scope, "b00+120;b03-120;b10+000;b13-7;b12+05;b11-0;"), 6);
        int[] bends = {120, 0, 0, -120, 0, 0, 5, -7};
        for (int i = 0; i < bends.length; i++) {
            Checks.due("bend", scope.bend(i / 4, i % 4), bends[i]);
        }
        Checks.due("the text stays", scope.clearText(), 43);
        Checks.due("a bend anew", Checks.carryOut(scope, "b00-3;b00+4;"), 2);
        Checks.due("bend", scope.bend(0, 0), 4);
    }

    private static void orders() {
        BentScope scope = new BentScope();
        Checks.due("orders", Checks.carryOut(scope, "s1000,2000;b00+30;a0;l;a00;l;s14000,3000;a1;"), 8);
        BentScope other = new BentScope();
        other.addStar(1000, 2000);
        other.setBend(0, 0, 30);
        other.aim(0);
        other.learn();
        other.aim(0);
        other.learn();
        other.addStar(14000, 3000);
        other.aim(1);
        Checks.dueDouble("correction", scope.correction(1, false), other.correction(1, false));
        for (int what = 0; what < 12; what++) {
            Checks.due("value " + what, scope.value(what), other.value(what));
        }
        Checks.due("undo all", scope.undo(), 0);
        Checks.dueValues(scope, "undone", 0, 0, 2700, 0, 0, 0, 0, 0, 0, 0, -1, 0);
        Checks.due("the same text again", scope.carryOut(), 8);
    }

    private static void ordersThatFail() {
        BentScope scope = new BentScope();
        Checks.due("nothing to learn", Checks.carryOut(scope, "l;b00+5;"), 0);
        Checks.due("not carried out", scope.bend(0, 0), 0);
        Checks.due("no star", Checks.carryOut(scope, "b00+5;a0;b00+6;"), 1);
        Checks.due("carried out", scope.bend(0, 0), 5);
        Checks.due("no star 99", Checks.carryOut(scope, "s0,600;a99;a0;"), 1);
        Checks.due("no star 1", Checks.carryOut(scope, "a0;a1;"), 1);
        Checks.due("too low", Checks.carryOut(scope, "s0,599;a1;a0;"), 1);
        Checks.due("too high", Checks.carryOut(scope, "s0,5101;a2;a0;"), 1);
        Checks.due("learned", Checks.carryOut(scope, "a0;l;l;a0;"), 2);
        Checks.due("aims", scope.value(5), 2);
        Checks.due("no room", Checks.carryOut(scope, "s0,1;s0,1;s0,1;s0,1;s0,1;s0,1;s0,1;s0,1;s0,1;"), 9);
        Checks.due("no room", Checks.carryOut(scope, "s0,1;s0,1;s0,1;s0,1;s0,1;s0,1;s0,1;s0,1;s0,1;"), 8);
        Checks.due("stars", scope.value(0), 20);
        Checks.due("star 19", Checks.carryOut(scope, "a0;a19;"), 1);
        scope.set(3, 0);
        Checks.due("star 19", Checks.carryOut(scope, "a0;a19;"), 2);
        Checks.due("no star 20", Checks.carryOut(scope, "a0;a20;"), 1);
        BentScope other = new BentScope();
        other.set(3, 0);
        Checks.due("no star 1", Checks.carryOut(other, "s0,0;a0;a1;"), 2);
    }

    private static void savedStates() {
        BentScope scope = new BentScope();
        Checks.append(scope, "s0,600;s0,700;");
        Checks.dueUndoable(scope, "carryOut", () -> scope.carryOut());
        scope.clearText();
        Checks.append(scope, "l;");
        Checks.dueUndoable(scope, "carryOut of nothing", () -> scope.carryOut());
        scope.append('l');
        Checks.dueRefusal(scope, "a syntax error saves nothing", STATE, () -> {
            scope.carryOut();
            scope.undo();
        });
    }

    private static void fullTexts() {
        StringBuilder orders = new StringBuilder();
        for (int i = 0; i < 20; i++) {
            orders.append("a0;l;");
        }
        BentScope scope = withOneStar();
        Checks.due("100 bytes", Checks.carryOut(scope, orders.toString()), 40);
        Checks.due("lessons", scope.lessons(0), 20);
        Checks.due("length", scope.clearText(), 100);
        BentScope other = withOneStar();
        Checks.due("99 bytes", Checks.carryOut(other, orders.substring(0, 99)), -109);
        other.append('0');
        Checks.due("100 bytes", other.carryOut(), -109);
        String start = orders.substring(0, 95);
        Checks.due("ends before the sign", Checks.carryOut(withOneStar(), start + "l;b13"), -110);
        Checks.due("ends after a digit", Checks.carryOut(withOneStar(), start + "l;l;0"), -109);
        Checks.due("ends in a number", Checks.carryOut(withOneStar(), start + "l;a00"), -110);
    }

    private static BentScope withOneStar() {
        BentScope scope = new BentScope();
        scope.addStar(0, 600);
        return scope;
    }

    /** Neither an error nor the bytes of an earlier text are left. */
    private static void textsAfterTexts() {
        BentScope scope = new BentScope();
        Checks.due("error", Checks.carryOut(scope, "b13+99x"), -16);
        Checks.due("right", Checks.carryOut(scope, "b13+99;"), 1);
        Checks.due("shorter", Checks.carryOut(scope, "b13+9"), -15);
        Checks.due("shorter", Checks.carryOut(scope, "b13"), -13);
        Checks.due("right", Checks.carryOut(scope, "s0,600;"), 1);
        Checks.due("shorter", Checks.carryOut(scope, "s0,600"), -16);
        Checks.due("right", Checks.carryOut(scope, "a0;"), 1);
    }
}
