import java.util.function.LongSupplier;

/** What the tests have in common: counting wrong answers, and handing texts to the class. */
final class Due {
    private int wrong = 0;
    private int asked = 0;
    private String under = "";

    /** What stands before each complaint from now on. */
    void under(String words) {
        under = words;
    }

    int asked() {
        return asked;
    }

    void wrong(String complaint) {
        wrong++;
        System.out.println(under + complaint);
    }

    void same(String what, long want, long got) {
        asked++;
        if (got != want) {
            wrong(what + " answered " + got + ", due is " + want);
        }
    }

    void same(String what, boolean want, boolean got) {
        same(what, want ? 1 : 0, got ? 1 : 0);
    }

    void same(String what, String want, String got) {
        asked++;
        if (!got.equals(want)) {
            wrong(what + " answered " + got + ", due is " + want);
        }
    }

    void thrown(String what, Class<? extends RuntimeException> want, LongSupplier call) {
        same(what, "throws." + want.getSimpleName(), answerOf(call));
    }

    void outOfBounds(String what, LongSupplier call) {
        thrown(what, IndexOutOfBoundsException.class, call);
    }

    void illegal(String what, LongSupplier call) {
        thrown(what, IllegalArgumentException.class, call);
    }

    void wrongState(String what, LongSupplier call) {
        thrown(what, IllegalStateException.class, call);
    }

    void unsupported(String what, LongSupplier call) {
        thrown(what, UnsupportedOperationException.class, call);
    }

    /** The text that was typed has so many characters: it is asked without changing it. */
    void textHas(int length, ChessRules rules) {
        same("cut(" + (length + 1) + ") of a text of " + length, false, rules.cut(length + 1));
        same("cut(" + length + ") of a text of " + length, true, rules.cut(length));
    }

    /** The text that was typed tells this position, which is loaded then. */
    void textTells(String position, ChessRules rules) {
        same("load() of " + position, 0, rules.load());
        same("the position behind load()", position, written(rules));
    }

    void fault(int want, String text) {
        same("load() of [" + text + "]", want, load(new ChessRules(), text));
    }

    void end() {
        System.out.println(asked + " answers asked for, " + wrong + " wrong");
        if (wrong != 0) {
            System.exit(1);
        }
    }

    /** The answer of a call as a text, also if it is an exception. */
    static String answerOf(LongSupplier call) {
        try {
            return Long.toString(call.getAsLong());
        } catch (RuntimeException e) {
            return "throws." + e.getClass().getSimpleName();
        }
    }

    static boolean type(ChessRules rules, String text) {
        for (int start = 0; start < text.length(); start += 8) {
            String part = text.substring(start, Math.min(start + 8, text.length()));
            if (!rules.type(packed(part), part.length())) {
                return false;
            }
        }
        return true;
    }

    static long packed(String part) {
        long w = 0;
        for (int i = part.length() - 1; i >= 0; i--) {
            w = w << 8 | part.charAt(i);
        }
        return w;
    }

    static int load(ChessRules rules, String text) {
        rules.cut(0);
        if (!type(rules, text)) {
            throw new AssertionError("the text can't be typed: " + text);
        }
        return rules.load();
    }

    static ChessRules from(String text) {
        ChessRules rules = new ChessRules();
        int fault = load(rules, text);
        if (fault != 0) {
            throw new AssertionError("fault " + fault + " of " + text);
        }
        return rules;
    }

    static String written(ChessRules rules) {
        int length = rules.write();
        StringBuilder text = new StringBuilder();
        for (int i = 0; i < length; i++) {
            text.append((char) rules.out(i));
        }
        return text.toString();
    }

    static int square(String name) {
        return name.charAt(0) - 'a' + 8 * (name.charAt(1) - '1');
    }

    /** A move told as e2e4, or e7e8q for a pawn that becomes another man. */
    static int move(String name) {
        int becomes = name.length() > 4 ? " .nbrq".indexOf(name.charAt(4)) : 0;
        return square(name.substring(0, 2)) + 64 * square(name.substring(2, 4)) + 4096 * becomes;
    }

    static void play(ChessRules rules, String names) {
        for (String name : names.split(" ")) {
            rules.play(move(name));
        }
    }

    static String name(int move) {
        String squares = name64(move & 63) + name64(move >> 6 & 63);
        return move >> 12 == 0 ? squares : squares + " .nbrq".charAt(move >> 12);
    }

    static String moves(ChessRules rules) {
        StringBuilder names = new StringBuilder();
        int count = rules.moves();
        for (int k = 0; k < count; k++) {
            names.append(k == 0 ? "" : " ").append(name(rules.move(k)));
        }
        return names.toString();
    }

    /** All that can be asked of a short game without changing anything, neither OUT nor the text. */
    static String picture(ChessRules rules) {
        StringBuilder told = new StringBuilder();
        for (int what = 0; what < 6; what++) {
            told.append(rules.about(what)).append(' ');
        }
        for (int square = 0; square < 64; square++) {
            told.append(rules.man(square)).append(' ');
        }
        told.append(rules.moves()).append(' ').append(rules.occurrence()).append(' ');
        told.append(rules.result()).append(' ').append(rules.claims()).append(' ');
        int c = rules.out(0);
        for (int i = 1; c != 0; i++) {
            told.append((char) c);
            c = rules.out(i);
        }
        String move = "";
        for (int i = 0; !move.startsWith("throws"); i++) {
            int n = i;
            move = answerOf(() -> rules.played(n));
            told.append(' ').append(move);
        }
        return told.toString();
    }

    static String name64(int square) {
        return "" + (char) ('a' + (square & 7)) + (char) ('1' + (square >> 3));
    }
}
