/**
 * The edges that the document names of the text: "Text" of the terms, append(), clearText() and
 * carryOut(). The sentence of the document stands over each test.
 */
public final class TextEdgesTest {
    private static final Class<IllegalArgumentException> ILLEGAL = IllegalArgumentException.class;
    private static final Class<IllegalStateException> STATE = IllegalStateException.class;
    private static final String DIGITS = "0123456789";

    public static void main(String[] args) {
        bytes();
        atMostAHundredBytes();
        lengthThatItHad();
        noOrders();
        everyByteEverywhere();
        everyByteBehindANumberOutOfRange();
        digitsOfNumbers();
        rangesOfNumbers();
        zerosInFront();
        starNumbers();
        signsOfBends();
        textsThatEndTooEarly();
        firstOfSeveralErrors();
        fullTexts();
        firstOrderThatThrows();
        lateOrderThatThrows();
        everyReasonToThrow();
        tooLate();
        textStaysAsItIs();
        oneSavedState();
        nothingChangesAtAnError();
        Checks.finish("TextEdgesTest");
    }

    /** "the byte, 0 to 127" */
    private static void bytes() {
        BentScope scope = new BentScope();
        Checks.due("the least byte", scope.append(0), 1);
        Checks.due("the greatest byte", scope.append(127), 2);
        int[] wrong = {-1, 128, 255, 256, -128, Integer.MIN_VALUE, Integer.MAX_VALUE};
        for (int value : wrong) {
            Checks.dueThrow("append(" + value + ")", ILLEGAL, () -> scope.append(value));
        }
        Checks.due("length", scope.clearText(), 2);
    }

    /** "The text has at most 100 bytes." */
    private static void atMostAHundredBytes() {
        BentScope scope = new BentScope();
        for (int length = 1; length <= 100; length++) {
            Checks.due("append", scope.append('l'), length);
        }
        Checks.dueThrow("byte 101", STATE, () -> scope.append('l'));
        Checks.dueThrow("a wrong byte comes first", ILLEGAL, () -> scope.append(128));
        Checks.dueThrow("a wrong byte comes first", ILLEGAL, () -> scope.append(-1));
        Checks.due("length", scope.clearText(), 100);
        Checks.due("room again", scope.append('l'), 1);
    }

    /** "Empties the text. Returns the length that it had." */
    private static void lengthThatItHad() {
        int[] lengths = {0, 1, 2, 99, 100};
        BentScope scope = new BentScope();
        for (int length : lengths) {
            for (int i = 0; i < length; i++) {
                scope.append('x');
            }
            Checks.due("length", scope.clearText(), length);
            Checks.due("empty then", scope.clearText(), 0);
            Checks.due("no error is left", scope.carryOut(), 0);
        }
    }

    /** "there may be no orders" */
    private static void noOrders() {
        BentScope scope = new BentScope();
        Checks.due("carryOut", scope.carryOut(), 0);
        Checks.due("one saved state", scope.undo(), 0);
        Checks.due("a lone semicolon is no order", Checks.carryOut(scope, ";"), -10);
    }

    /** Builds the text on a new telescope, which has no stars, and carries it out. */
    private static int carriedOut(String text) {
        return Checks.carryOut(new BentScope(), text);
    }

    /**
     * "The syntax error position is the index of the first byte that cannot stand where it stands (a digit
     * too many, too), or the length of the text if the text ends too early."
     */
    private static void everyByteEverywhere() {
        // A text that is right so far, and the bytes that can stand behind it.
        String[][] rows = {
            {"", "sabl"}, {"s", DIGITS}, {"s0", DIGITS + ","}, {"s10", DIGITS + ","}, {"s100", DIGITS + ","},
            {"s1000", DIGITS + ","}, {"s10000", ","}, {"s21599", ","}, {"s00000", ","}, {"s1,", DIGITS},
            {"s21599,", DIGITS}, {"s1,0", DIGITS + ";"}, {"s1,10", DIGITS + ";"}, {"s1,100", DIGITS + ";"},
            {"s1,1000", ";"}, {"s1,5400", ";"}, {"s1,0000", ";"}, {"a", DIGITS}, {"a0", DIGITS + ";"},
            {"a9", DIGITS + ";"}, {"a00", ";"}, {"a99", ";"}, {"l", ";"}, {"b", "01"}, {"b0", "0123"}, {"b1", "0123"},
            {"b00", "+-"}, {"b13", "+-"}, {"b01+", DIGITS}, {"b01-", DIGITS}, {"b01+0", DIGITS + ";"},
            {"b01-9", DIGITS + ";"}, {"b01+11", DIGITS + ";"}, {"b01-00", DIGITS + ";"}, {"b01+120", ";"},
            {"b01-120", ";"}, {"b01+000", ";"}, {"l;", "sabl"}, {"s1,1;", "sabl"}, {"b00+1;a1;l;", "sabl"},
            {"l;s", DIGITS}, {"l;s21599", ","}, {"l;a1", DIGITS + ";"}, {"l;b", "01"}, {"l;b0", "0123"},
        };
        for (String[] row : rows) {
            int position = row[0].length();
            for (char value = 0; value < 128; value++) {
                String text = row[0] + value;
                String what = "byte " + (int) value + " behind " + row[0];
                if (row[1].indexOf(value) < 0) {
                    Checks.due(what, carriedOut(text), -10 - position);
                } else if (value != ';') {
                    Checks.due(what + " ends too early", carriedOut(text), -10 - text.length());
                } else {
                    Checks.dueTrue(what + " is right", carriedOut(text) >= 0);
                }
            }
        }
    }

    /**
     * "For a number that is out of its range it is the index of its first digit, found when a byte that is
     * no digit, whichever it is, or the end of the text, follows it."
     */
    private static void everyByteBehindANumberOutOfRange() {
        // The text, the index of the first digit of its last number.
        Object[][] rows = {
            {"s21600", 1}, {"s21700", 1}, {"s30000", 1}, {"s99999", 1}, {"s1,5401", 3}, {"s21599,5500", 7},
            {"s1,6000", 3}, {"s1,9999", 3}, {"b00+121", 4}, {"b13-121", 4}, {"b01+130", 4}, {"b01-200", 4},
            {"b01+999", 4}, {"l;s21600", 3}, {"a0;b00-121", 7}, {"s1,1;s1,5401", 8},
        };
        for (Object[] row : rows) {
            String start = (String) row[0];
            int first = (Integer) row[1];
            Checks.due(start + " and the end", carriedOut(start), -10 - first);
            for (char value = 0; value < 128; value++) {
                int position = DIGITS.indexOf(value) >= 0 ? start.length() : first;
                Checks.due("byte " + (int) value + " behind " + start, carriedOut(start + value), -10 - position);
            }
            Checks.due("more behind it", carriedOut(start + ",5401;x"), -10 - first);
        }
    }

    /** "an azimuth of one to five digits", "an altitude of one to four digits" and so on */
    private static void digitsOfNumbers() {
        String[] right = {"s1,1;", "s12,12;", "s123,123;", "s1234,1234;", "s12345,1;", "s12345,1234;", "b00+1;",
            "b00+12;", "b00+112;"};
        for (String text : right) {
            Checks.due(text, carriedOut(text), 1);
        }
        Object[][] wrong = {
            {"s,1;", 1}, {"s123456,1;", 6}, {"s1,;", 3}, {"s1,12345;", 7}, {"a;", 1}, {"a123;", 3}, {"b00+;", 4},
            {"b00+1123;", 7}, {"b00-0000;", 7}, {"s000001,1;", 6}, {"s1,00001;", 7}, {"a000;", 3}, {"b;", 1},
            {"b0;", 2}, {"b000+1;", 3}, {"b00;", 3}, {"b00-;", 4},
        };
        for (Object[] row : wrong) {
            Checks.due((String) row[0], carriedOut((String) row[0]), -10 - (Integer) row[1]);
        }
    }

    /** "0 to 21599", "0 to 5400", "a side digit 0 or 1, a digit 0 to 3", "0 to 120" */
    private static void rangesOfNumbers() {
        BentScope scope = new BentScope();
        Checks.due("stars", Checks.carryOut(scope, "s0,0;s21599,5400;s0,5400;s21599,0;"), 4);
        int[] facts = {0, 0, 21599, 5400, 0, 5400, 21599, 0};
        for (int i = 0; i < 8; i++) {
            Checks.due("star " + i / 2, scope.star(i / 2, i % 2), facts[i]);
        }
        Checks.due("bends", Checks.carryOut(scope, "b00+120;b01-120;b02+0;b03-0;b10+1;b11-1;b12-120;b13+120;"), 8);
        int[] bends = {120, -120, 0, 0, 1, -1, -120, 120};
        for (int i = 0; i < 8; i++) {
            Checks.due("bend " + i, scope.bend(i / 4, i % 4), bends[i]);
        }
        Object[][] wrong = {{"s21600,0;", 1}, {"s0,5401;", 3}, {"b20+0;", 1}, {"b04+0;", 2}, {"b00+121;", 4},
            {"b00-121;", 4}, {"b90+0;", 1}, {"b09+0;", 2}};
        for (Object[] row : wrong) {
            Checks.due((String) row[0], carriedOut((String) row[0]), -10 - (Integer) row[1]);
        }
    }

    /** "Numbers can have zeros in front." */
    private static void zerosInFront() {
        BentScope scope = new BentScope();
        Checks.due("orders", Checks.carryOut(scope, "s00007,0600;s00000,0000;s01,01;a00;b00+007;b01-09;b02+000;"), 7);
        int[] facts = {7, 600, 0, 0, 1, 1};
        for (int i = 0; i < 6; i++) {
            Checks.due("star " + i / 2, scope.star(i / 2, i % 2), facts[i]);
        }
        int[] bends = {7, -9, 0};
        for (int i = 0; i < 3; i++) {
            Checks.due("bend " + i, scope.bend(0, i), bends[i]);
        }
        Checks.due("aim at 00", scope.value(10), 0);
    }

    /** "a star number of one or two digits": whether there is such a star is asked when it is carried out. */
    private static void starNumbers() {
        BentScope scope = Scopes.full();
        scope.set(3, 0);
        Checks.due("stars", Checks.carryOut(scope, "a0;a9;a09;a10;a19;"), 5);
        Checks.due("star of the latest aim", scope.value(10), 19);
        Checks.due("aims at 9", scope.star(9, 5), 2);
        String[] none = {"a20;", "a99;", "a31;", "a32;"};
        for (String text : none) {
            Checks.due("no error, but no star " + text, Checks.carryOut(scope, text), 0);
        }
        Checks.due("without a star", carriedOut("a0;"), 0);
    }

    /** "+" or "-" */
    private static void signsOfBends() {
        BentScope scope = new BentScope();
        Checks.due("orders", Checks.carryOut(scope, "b00+5;b01-5;b02-0;b03-120;"), 4);
        Checks.due("+", scope.bend(0, 0), 5);
        Checks.due("-", scope.bend(0, 1), -5);
        Checks.due("-0", scope.bend(0, 2), 0);
        Checks.due("-120", scope.bend(0, 3), -120);
        Checks.due("no sign", carriedOut("b005;"), -13);
        Checks.due("two signs", carriedOut("b00+-5;"), -14);
        Checks.due("a sign before a star number", carriedOut("a+1;"), -11);
        Checks.due("a sign before an azimuth", carriedOut("s+1,1;"), -11);
        Checks.due("a sign before an altitude", carriedOut("s1,-1;"), -13);
    }

    /** "or the length of the text if the text ends too early": behind each byte of each order */
    private static void textsThatEndTooEarly() {
        String[] orders = {"s21599,5400;", "s0,0;", "a19;", "a0;", "l;", "b13-120;", "b00+0;"};
        for (String before : new String[] {"", "l;", "s1,1;a0;"}) {
            for (String order : orders) {
                for (int length = 1; length < order.length(); length++) {
                    String text = before + order.substring(0, length);
                    Checks.due(text, carriedOut(text), -10 - text.length());
                }
                Checks.dueTrue(before + order + " is right", carriedOut(before + order) >= 0);
            }
        }
    }

    /** "the first byte that cannot stand where it stands": later errors are not told. */
    private static void firstOfSeveralErrors() {
        Object[][] rows = {
            {"x;y;", 0}, {"l;;;", 2}, {"lx;ly;", 1}, {"s21600,5401;", 1}, {"s21600,5401", 1}, {"s1,5401;b00+121;", 3},
            {"b24*121;", 1}, {"b04*121;", 2}, {"b00*121;", 3}, {"a100;s21600,1;", 3}, {"s216000,5401;", 6},
            {"a0 ;x", 2}, {"l;s1;a;", 4},
        };
        for (Object[] row : rows) {
            Checks.due((String) row[0], carriedOut((String) row[0]), -10 - (Integer) row[1]);
        }
    }

    /** "The text has at most 100 bytes.": the last ones count like the others. */
    private static void fullTexts() {
        StringBuilder orders = new StringBuilder();
        for (int i = 0; i < 48; i++) {
            orders.append("l;");
        }
        BentScope scope = new BentScope();
        scope.addStar(0, 600);
        Checks.due("49 orders", Checks.carryOut(scope, "a0;" + orders.substring(0, 94) + "a0;"), 2);
        Checks.due("length", scope.clearText(), 100);
        String[] ends = {"l;l ", "l;lx", "l;l;", "b00+", "l;b0", "l;a0", "l;s1", "s1,1", "b000", "a000", "a00;"};
        int[] answers = {-109, -109, 0, -110, -110, -110, -110, -110, -109, -109, 0};
        for (int i = 0; i < ends.length; i++) {
            Checks.due("100 bytes that end with " + ends[i], carriedOut(orders + ends[i]), answers[i]);
        }
        StringBuilder bends = new StringBuilder();
        for (int i = 0; i < 20; i++) {
            bends.append("a0;l;");
        }
        BentScope other = new BentScope();
        other.addStar(0, 600);
        Checks.due("all 40 orders", Checks.carryOut(other, bends.toString()), 40);
        Checks.due("lessons", other.lessons(0), 20);
        Checks.due("aims", other.value(5), 20);
    }

    /** "up to the first one that would throw an exception (that one is not carried out)" */
    private static void firstOrderThatThrows() {
        BentScope scope = new BentScope();
        Checks.due("the first", Checks.carryOut(scope, "l;b00+1;s1,1;"), 0);
        Checks.dueValues(scope, "nothing carried out", 0, 0, 2700, 0, 0, 0, 0, 0, 0, 0, BentScope.NONE, 0);
        Checks.due("no bend behind it", scope.bend(0, 0), 0);
        Checks.due("the second", Checks.carryOut(scope, "b00+1;a0;s1,700;"), 1);
        Checks.due("one bend before it", scope.bend(0, 0), 1);
        Checks.due("no star behind it", scope.value(0), 0);
        Checks.due("the last", Checks.carryOut(scope, "s1,700;a0;l;l;"), 3);
        Checks.due("one lesson", scope.value(8), 1);
        Checks.due("none", Checks.carryOut(scope, "a0;l;"), 2);
        Checks.due("two lessons", scope.value(8), 2);
    }

    /** "Returns the number of orders that are carried out", if the last of a full text would throw, too */
    private static void lateOrderThatThrows() {
        // What is repeated, how often, what stands behind it, and the orders that are carried out.
        Object[][] rows = {
            {"a0;", 32, "a9;", 32}, {"a0;", 33, "", 33}, {"a0;l;", 19, "l;a0;", 38}, {"a0;l;", 19, "a0;l;", 40},
            {"b00+1;", 16, "l;", 16}, {"b00-1;", 16, "a1;", 16}, {"s0,1;", 19, "s0,1;", 19}, {"a0;", 31, "s0,1;", 32},
        };
        for (Object[] row : rows) {
            BentScope scope = new BentScope();
            scope.addStar(0, 600);
            String text = ((String) row[0]).repeat((Integer) row[1]) + row[2];
            Checks.due(text, Checks.carryOut(scope, text), (Integer) row[3]);
        }
    }

    /** The exceptions of addStar(), aim() and learn(), each with what is allowed beside it. */
    private static void everyReasonToThrow() {
        BentScope scope = new BentScope();
        scope.addStar(0, 599);
        scope.addStar(0, 600);
        scope.addStar(0, 5100);
        scope.addStar(0, 5101);
        Object[][] rows = {
            {"a0;a1;", 0}, {"a1;a0;", 1}, {"a2;a3;", 1}, {"a3;a2;", 0}, {"a4;a1;", 0}, {"a1;a4;", 1}, {"a1;l;l;a1;", 2},
            {"l;a1;", 0}, {"a1;l;a2;l;", 4},
        };
        for (Object[] row : rows) {
            Checks.due((String) row[0], Checks.carryOut(scope, (String) row[0]), (Integer) row[1]);
        }
        for (int star = 4; star < 19; star++) {
            scope.addStar(0, 600);
        }
        Checks.due("the 20th star", Checks.carryOut(scope, "b00+7;s0,0;s0,1;b00+8;"), 2);
        Checks.due("stars", scope.value(0), 20);
        Checks.due("bend", scope.bend(0, 0), 7);
    }

    /** "or the time would be greater than 1000000" for an order, too */
    private static void tooLate() {
        BentScope scope = Scopes.late(0);
        Checks.due("just in time", scope.carryOut(), 3);
        Checks.due("time", scope.value(4), 1000000);
        Checks.due("too late for star 1", scope.carryOut(), 0);
        BentScope other = Scopes.late(1);
        Checks.due("too late for star 0", other.carryOut(), 1);
        Checks.due("time", other.value(4), 1000001 - 10860);
        Checks.due("too late at once", Checks.carryOut(other, "a0;a1;"), 0);
    }

    /** "The text stays as it is." */
    private static void textStaysAsItIs() {
        BentScope scope = new BentScope();
        Checks.due("first", Checks.carryOut(scope, "s1,1;b00+5;"), 2);
        Checks.due("again", scope.carryOut(), 2);
        Checks.due("stars", scope.value(0), 2);
        Checks.due("still open", scope.append('l'), 12);
        Checks.due("an error", scope.carryOut(), -22);
        Checks.due("the same error", scope.carryOut(), -22);
        Checks.due("closed", scope.append(';'), 13);
        Checks.due("right again", scope.carryOut(), 2);
        Checks.due("length", scope.clearText(), 13);
    }

    /** "Undoable (one saved state, also if no order is carried out), if there is no syntax error." */
    private static void oneSavedState() {
        String[] texts = {"", "l;", "a0;b00+1;", "b00+1;", "b00+1;b00+2;b00+3;b00+4;b00+5;", "s1,700;a0;l;l;"};
        for (String text : texts) {
            BentScope scope = new BentScope();
            Checks.carryOut(scope, text);
            Checks.due("one saved state for " + text, scope.undo(), 0);
            Checks.dueValues(scope, "undone", 0, 0, 2700, 0, 0, 0, 0, 0, 0, 0, BentScope.NONE, 0);
            Checks.due("bend", scope.bend(0, 0), 0);
        }
        String[] wrong = {"x", "b00+1;x", "l", "s21600,1;"};
        for (String text : wrong) {
            BentScope scope = new BentScope();
            Checks.carryOut(scope, text);
            Checks.dueThrow("no saved state for " + text, STATE, () -> scope.undo());
        }
    }

    /** "-10 minus the syntax error position if there is a syntax error (then nothing changes)" */
    private static void nothingChangesAtAnError() {
        String[] wrong = {"x", "b00+1;x", "a0;l;a0;l", "s1,1;s21600,1;", "b12-7;b12-121"};
        for (String text : wrong) {
            Twins.dueAlike(text, () -> {
                BentScope scope = busyWith(text);
                Checks.dueTrue("an error in " + text, scope.carryOut() <= -10);
                return scope;
            }, () -> busyWith(text));
        }
    }

    private static BentScope busyWith(String text) {
        BentScope scope = Scopes.busy();
        scope.clearText();
        Checks.append(scope, text);
        return scope;
    }
}
