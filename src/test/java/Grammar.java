import java.util.ArrayList;
import java.util.List;

/** Finds the first syntax error of a text by walking along the forms of the orders. */
final class Grammar {
    // D: a digit that must stand, d: one that may, 1 and 3: a digit up to it, #: a sign.
    private static final String[] FORMS = {"sDdddd,Dddd;", "aDd;", "l;", "b13#Ddd;"};

    private Grammar() {
    }

    /** The position of the error, or -1. */
    static int errorIn(String text) {
        int at = 0;
        while (at < text.length()) {
            String form = null;
            for (String candidate : FORMS) {
                if (candidate.charAt(0) == text.charAt(at)) {
                    form = candidate;
                }
            }
            if (form == null) {
                return at;
            }
            int end = walk(form, text, at);
            if (end < 0) {
                return -1 - end;
            }
            at = end;
        }
        return -1;
    }

    /** The end of the order, or -1 minus the position of the error. */
    private static int walk(String form, String text, int start) {
        int at = start;
        List<Integer> limits = new ArrayList<>(limits(form));
        int number = -1;
        for (int i = 0; i < form.length(); i++) {
            char want = form.charAt(i);
            boolean digit = at < text.length() && Character.isDigit(text.charAt(at));
            if (want == 'D') {
                number = at;
            }
            if (want == 'd' && !digit) {
                continue;
            }
            boolean inNumber = want == 'D' || want == 'd';
            if (!inNumber && number >= 0 && !digit) {
                if (Integer.parseInt(text.substring(number, at)) > limits.remove(0)) {
                    return -1 - number;
                }
                number = -1;
            }
            if (at >= text.length() || !fits(want, text.charAt(at))) {
                return -1 - at;
            }
            at++;
        }
        return at;
    }

    private static List<Integer> limits(String form) {
        switch (form.charAt(0)) {
            case 's':
                return List.of(21599, 5400);
            case 'a':
                return List.of(99);
            default:
                return List.of(120);
        }
    }

    private static boolean fits(char want, char got) {
        switch (want) {
            case 'D':
            case 'd':
                return got >= '0' && got <= '9';
            case '1':
                return got == '0' || got == '1';
            case '3':
                return got >= '0' && got <= '3';
            case '#':
                return got == '+' || got == '-';
            default:
                return got == want;
        }
    }
}
