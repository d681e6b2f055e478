/** The sentences of promises 1 to 3, 5 and 6: the new object, type, cut, write, out. */
final class TextSentences {
    private static final String NEW = "Promise 1: A new object";
    private static final String TYPE = "Promise 2: type";
    private static final String CUT = "Promise 3: cut";
    private static final String WRITE = "Promise 5: write";
    private static final String OUT = "Promise 6: out";
    private static final int[] FAR = {Integer.MIN_VALUE, Integer.MIN_VALUE + 1, -1, Integer.MAX_VALUE - 1, Integer.MAX_VALUE};

    private TextSentences() {
    }

    static void tell(Sentences s) {
        s.holds(NEW, "The usual first position: rnbqkbnr/pppppppp/8/8/8/8/PPPPPPPP/RNBQKBNR w KQkq - 0 1.",
                TextSentences::firstPosition);
        s.holds(NEW, "The text is empty", TextSentences::newTextIsEmpty);
        s.holds(NEW, "and so is OUT.", TextSentences::newOutIsEmpty);
        s.holds(TYPE, "n characters come behind the text", TextSentences::charactersComeBehind);
        s.holds(TYPE, "the lowest byte of w first.", TextSentences::lowestByteFirst);
        s.holds(TYPE, "False, changing nothing, when n is not 1 .. 8", TextSentences::wrongCounts);
        s.holds(TYPE, "there would be more than 100", TextSentences::atMostHundred);
        s.holds(TYPE, "or one is not 32 .. 126.", TextSentences::wrongCharacters);
        s.holds(CUT, "The text keeps its first n characters.", TextSentences::keepsTheFirst);
        s.holds(CUT, "False when n is negative", TextSentences::cutOfLessThanNothing);
        s.holds(CUT, "or it has not so many.", TextSentences::cutOfMoreThanThereIs);
        s.holds(WRITE, "The text of the present position goes into OUT: how long it is.", TextSentences::writesThePresent);
        s.holds(WRITE, "(Numbers above 999 are told as 999.)", TextSentences::numbersAbove999);
        s.holds(OUT, "Character i of OUT", TextSentences::charactersOfOut);
        s.holds(OUT, "0 when there is none.", TextSentences::noCharacterOfOut);
    }

    private static void firstPosition(Due due) {
        ChessRules x = new ChessRules();
        int[] outer = {4, 2, 3, 5, 6, 3, 2, 4};
        for (int square = 0; square < 64; square++) {
            int[] byRank = {outer[square & 7], 1, 0, 0, 0, 0, 9, 8 + outer[square & 7]};
            due.same("man(" + square + ")", byRank[square >> 3], x.man(square));
        }
        int[] about = {0, 15, ChessRules.NONE, 0, 1, 0};
        for (int what = 0; what < 6; what++) {
            due.same("about(" + what + ")", about[what], x.about(what));
        }
        due.same("the text", Texts.FIRST, Due.written(x));
        due.same("moves()", 20, x.moves());
        due.same("occurrence()", 1, x.occurrence());
        due.same("result()", 0, x.result());
        due.wrongState("back() of a new game", () -> x.back());
        due.outOfBounds("played(0) of a new game", () -> x.played(0));
        Due.play(x, "e2e4 e7e5");
        due.same("another object, made when the first one has moved", Texts.FIRST, Due.written(new ChessRules()));
    }

    private static void newTextIsEmpty(Due due) {
        ChessRules x = new ChessRules();
        due.textHas(0, x);
        due.same("load() of the empty text", 1, x.load());
        Due.type(x, Texts.KINGS);
        due.textTells(Texts.KINGS, x);
    }

    private static void newOutIsEmpty(Due due) {
        ChessRules x = new ChessRules();
        for (int i = -1; i <= 101; i++) {
            due.same("out(" + i + ") before anything is written", 0, x.out(i));
        }
    }

    private static void charactersComeBehind(Due due) {
        for (int n = 1; n <= 8; n++) {
            ChessRules x = new ChessRules();
            int length = 0;
            while (length < Texts.KINGS.length()) {
                String part = Texts.KINGS.substring(length, Math.min(length + n, Texts.KINGS.length()));
                due.same("type of " + part.length(), true, x.type(Due.packed(part), part.length()));
                length += part.length();
                due.textHas(length, x);
            }
            due.textTells(Texts.KINGS, x);
        }
    }

    private static void lowestByteFirst(Due due) {
        String told = "k7/8/8/8/8/8/8/6QK b - - 12 345";
        for (int n = 1; n <= 8; n++) {
            ChessRules x = new ChessRules();
            for (int start = 0; start < told.length(); start += n) {
                String part = told.substring(start, Math.min(start + n, told.length()));
                // The bytes above the n lowest are no characters and do not count.
                long above = part.length() == 8 ? 0 : (start % 2 == 0 ? -1L : 0x0101010101010101L) << 8 * part.length();
                due.same("type with other bytes above", true, x.type(Due.packed(part) | above, part.length()));
            }
            due.textTells(told, x);
        }
    }

    /** The text tells a position before and behind the call: a character more or less would be a fault. */
    private static void refusedType(Due due, long w, int n) {
        ChessRules x = new ChessRules();
        Due.type(x, Texts.KINGS);
        due.same("type(" + Long.toHexString(w) + ", " + n + ")", false, x.type(w, n));
        due.textHas(Texts.KINGS.length(), x);
        due.same("load() of the text that was there", 0, x.load());
    }

    private static void wrongCounts(Due due) {
        long good = Due.packed("11111111");
        for (int n : new int[] {0, -1, -7, -8, 9, 10, 15, 16, 17, 256, 257, 264, -255}) {
            refusedType(due, good, n);
        }
        for (int n : FAR) {
            refusedType(due, good, n);
        }
        due.same("n = 1", true, new ChessRules().type(good, 1));
        due.same("n = 8", true, new ChessRules().type(good, 8));
        due.same("n = 0 of an empty text", false, new ChessRules().type(good, 0));
    }

    /** A good text, and so many more that there are length characters in all. */
    private static ChessRules filled(int length) {
        ChessRules x = new ChessRules();
        Due.type(x, Texts.KINGS + "~".repeat(length - Texts.KINGS.length()));
        return x;
    }

    private static void atMostHundred(Due due) {
        for (int length = 92; length <= 100; length++) {
            for (int n = 1; n <= 8; n++) {
                ChessRules x = filled(length);
                boolean fits = length + n <= 100;
                due.same("type of " + n + " behind " + length, fits, x.type(Due.packed("11111111"), n));
                due.textHas(fits ? length + n : length, x);
                x.cut(Texts.KINGS.length());
                due.same("load() of what stood first", 0, x.load());
            }
        }
        ChessRules again = filled(100);
        due.same("101 characters", false, again.type('1', 1));
        again.cut(99);
        due.same("100 characters behind a cut", true, again.type('1', 1));
        due.same("101 characters again", false, again.type('1', 1));
        due.same("load() of 100 characters", 1, again.load());
        due.textHas(100, again);
    }

    private static void wrongCharacters(Due due) {
        for (int c = 0; c < 256; c++) {
            ChessRules x = new ChessRules();
            boolean fits = c >= 32 && c <= 126;
            due.same("type of character " + c, fits, x.type(c, 1));
            due.textHas(fits ? 1 : 0, x);
        }
        for (int place = 0; place < 8; place++) {
            long others = Due.packed("11111111") & ~(255L << 8 * place);
            for (int c : new int[] {0, 1, 9, 10, 31, 127, 128, 160, 254, 255}) {
                refusedType(due, others | (long) c << 8 * place, 8);
                refusedType(due, others | (long) c << 8 * place, place + 1);
            }
            for (int c : new int[] {32, 126}) {
                due.same("character " + c + " at " + place, true, new ChessRules().type(others | (long) c << 8 * place, 8));
            }
        }
    }

    private static void keepsTheFirst(Due due) {
        String told = Texts.KINGS;
        for (int n = 0; n <= told.length(); n++) {
            ChessRules x = new ChessRules();
            Due.type(x, told.substring(0, n) + "~~~");
            due.same("cut(" + n + ")", true, x.cut(n));
            due.textHas(n, x);
            Due.type(x, told.substring(n));
            due.same("load() of the first " + n + " and those that came behind", 0, x.load());
        }
        ChessRules whole = new ChessRules();
        Due.type(whole, told);
        due.same("cut of nothing", true, whole.cut(told.length()));
        due.textTells(told, whole);
        ChessRules full = filled(100);
        due.same("cut(100) of 100", true, full.cut(100));
        due.same("cut(0) of 100", true, full.cut(0));
        due.textHas(0, full);
        due.same("cut(0) of an empty text", true, full.cut(0));
    }

    private static void refusedCut(Due due, int n) {
        ChessRules x = new ChessRules();
        Due.type(x, Texts.KINGS);
        due.same("cut(" + n + ")", false, x.cut(n));
        due.textTells(Texts.KINGS, x);
        due.same("cut(" + n + ") of an empty text", false, x.cut(n));
    }

    private static void cutOfLessThanNothing(Due due) {
        for (int n : new int[] {-1, -2, -100, Integer.MIN_VALUE, Integer.MIN_VALUE + 1}) {
            refusedCut(due, n);
        }
    }

    private static void cutOfMoreThanThereIs(Due due) {
        int length = Texts.KINGS.length();
        for (int n : new int[] {length + 1, length + 2, 99, 100, 101, Integer.MAX_VALUE}) {
            refusedCut(due, n);
        }
        due.same("cut(1) of an empty text", false, new ChessRules().cut(1));
        due.same("cut(101) of 100", false, filled(100).cut(101));
        ChessRules x = filled(60);
        x.cut(50);
        due.same("cut(51) when only 50 are left", false, x.cut(51));
        due.same("cut(50) when 50 are left", true, x.cut(50));
    }

    private static void writesThePresent(Due due) {
        String shortest = "k7/8/8/8/8/8/8/K7 w - - 0 1";
        String longest = "rnbqkbnr/ppp1pppp/ppp1pppp/nnnpPnnn/NNNNNNNN/PPPPPPPP/PPPPPPPP/RNBQKBNR w KQkq d6 999 999";
        due.same("the longest text's length", 89, longest.length());
        for (String told : new String[] {shortest, longest, Texts.FIRST, "r3k2r/8/8/8/8/8/8/R3K2R b Qk - 10 100",
            "r3k2r/8/8/8/8/8/8/R3K2R b K - 9 99", "4k3/8/8/8/pP6/8/8/4K3 b - b3 0 7", "4k3/8/8/6pP/8/8/8/4K3 w - g6 100 10",
            "1k1q1q1q/n1n1n1n1/1N1N1N1N/b1b1b1b1/1B1B1B1B/r1r1r1r1/1Q1Q1QQ1/q1q1qBK1 b - - 109 910"}) {
            ChessRules x = new ChessRules();
            due.same("load() of " + told, 0, Due.load(x, told));
            due.same("write()", told.length(), x.write());
            due.same("OUT", told, Due.written(x));
        }
        ChessRules x = new ChessRules();
        x.write();
        Due.play(x, "e2e4");
        due.same("OUT before it is written anew", '8', x.out(22));
        due.same("write() behind a move", 58, x.write());
        due.same("OUT when it is written anew", '4', x.out(22));
        due.same("OUT behind a move", "rnbqkbnr/pppppppp/8/8/4P3/8/PPPP1PPP/RNBQKBNR b KQkq - 0 1", Due.written(x));
        x.back();
        due.same("OUT when it is taken back", Texts.FIRST, Due.written(x));
    }

    private static void numbersAbove999(Due due) {
        ChessRules x = Due.from("r3k2r/8/8/8/8/8/8/R3K2R b KQkq - 9 998");
        Due.play(x, "e8d8 e1d1");
        due.same("the number 999", "r2k3r/8/8/8/8/8/8/R2K3R b - - 11 999", Due.written(x));
        Due.play(x, "d8e8");
        due.same("the number is not held at 999", 1000, x.about(4));
        due.same("the number 1000", "r3k2r/8/8/8/8/8/8/R2K3R w - - 12 999", Due.written(x));
        Due.play(x, "d1e1 e8d8");
        due.same("the number goes on", 1001, x.about(4));
        due.same("the number 1001", "r2k3r/8/8/8/8/8/8/R3K2R w - - 14 999", Due.written(x));
        x.back();
        x.back();
        x.back();
        due.same("the number taken back", 999, x.about(4));
        ChessRules clock = Due.from("4k3/8/8/8/8/8/8/R3K3 w - - 999 999");
        due.same("the clock 999", "4k3/8/8/8/8/8/8/R3K3 w - - 999 999", Due.written(clock));
    }

    private static void charactersOfOut(Due due) {
        for (String told : new String[] {Texts.FIRST, Texts.KINGS, "r3k2r/8/8/8/8/8/8/R3K2R b Qk - 10 100"}) {
            ChessRules x = Due.from(told);
            int length = x.write();
            for (int i = 0; i < length; i++) {
                due.same("out(" + i + ")", told.charAt(i), x.out(i));
            }
        }
        ChessRules kept = new ChessRules();
        int length = kept.write();
        Due.play(kept, "e2e4");
        Due.load(kept, Texts.KINGS);
        due.same("the first character stays", 'r', kept.out(0));
        due.same("the last character stays", '1', kept.out(length - 1));
    }

    private static void noCharacterOfOut(Due due) {
        ChessRules x = new ChessRules();
        int length = x.write();
        for (int i : new int[] {length, length + 1, 99, 100, 101, 1000}) {
            due.same("out(" + i + ")", 0, x.out(i));
        }
        for (int i : FAR) {
            due.same("out(" + i + ")", 0, x.out(i));
        }
        Due.load(x, Texts.KINGS);
        int shorter = x.write();
        due.same("the last character of a shorter text", '1', x.out(shorter - 1));
        for (int i = shorter; i <= length; i++) {
            due.same("nothing is left of the longer one at " + i, 0, x.out(i));
        }
    }
}
