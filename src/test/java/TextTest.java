/** Promises 1 to 6: the new object, type, cut, load, write, out. */
public final class TextTest {
    private static final String FIRST = "rnbqkbnr/pppppppp/8/8/8/8/PPPPPPPP/RNBQKBNR w KQkq - 0 1";
    private static final Due DUE = new Due();

    public static void main(String[] args) {
        promise1();
        promise2();
        promise2Limit();
        promise3();
        promise4Shape();
        promise4Men();
        promise4RightsAndPassed();
        promise4FirstFaultCounts();
        promise4State();
        promise5();
        promise6();
        DUE.end();
    }

    private static void promise1() {
        ChessRules x = new ChessRules();
        DUE.same("a new text has a character", false, x.cut(1));
        DUE.same("a new text is empty", true, x.cut(0));
        DUE.same("a new OUT is empty", 0, x.out(0));
        DUE.same("load() of the empty text", 1, x.load());
        DUE.same("the first position", FIRST, Due.written(x));
        DUE.same("moves at first", 20, x.moves());
        DUE.same("occurrence at first", 1, x.occurrence());
        DUE.thrown("back() at first", IllegalStateException.class, () -> x.back());
        DUE.thrown("played(0) at first", IndexOutOfBoundsException.class, () -> x.played(0));
    }

    private static void promise2() {
        ChessRules x = new ChessRules();
        for (int n : new int[] {0, -1, 9, 16, Integer.MIN_VALUE, Integer.MAX_VALUE}) {
            DUE.same("type(.., " + n + ")", false, x.type(Due.packed("abcdefgh"), n));
        }
        for (int c = 0; c < 256; c++) {
            promise2Character(c);
        }
        DUE.same("bytes above n don't count", true, x.type(0xFF00000000004141L, 2));
        DUE.textHas(2, x);
        x.cut(0);
        DUE.same("lowest byte first", 0, Due.load(x, "k7/8/8/8/8/8/8/7K b - - 3 4"));
        DUE.same("lowest byte first, read", "k7/8/8/8/8/8/8/7K b - - 3 4", Due.written(x));
    }

    private static void promise2Character(int c) {
        ChessRules x = new ChessRules();
        boolean fits = c >= 32 && c <= 126;
        DUE.same("type of character " + c, fits, x.type(c, 1));
        DUE.same("type of character " + c + " last", fits, x.type((long) c << 56 | Due.packed("abcdefg"), 8));
        DUE.textHas(fits ? 9 : 0, x);
    }

    private static void promise2Limit() {
        ChessRules x = new ChessRules();
        for (int i = 0; i < 12; i++) {
            DUE.same("up to 96", true, x.type(Due.packed("12345678"), 8));
        }
        DUE.same("101 characters", false, x.type(Due.packed("12345"), 5));
        DUE.textHas(96, x);
        DUE.same("100 characters", true, x.type(Due.packed("1234"), 4));
        DUE.same("one more than 100", false, x.type('1', 1));
        DUE.textHas(100, x);
        DUE.same("load() of 100 characters", 1, x.load());
        DUE.textHas(100, x);
        x.cut(99);
        DUE.same("two more than 99", false, x.type(Due.packed("12"), 2));
        DUE.same("one more than 99", true, x.type('1', 1));
    }

    private static void promise3() {
        ChessRules x = new ChessRules();
        Due.type(x, FIRST + " and more");
        DUE.same("load() with more", 1, x.load());
        DUE.same("cut(-1)", false, x.cut(-1));
        DUE.same("cut(MIN)", false, x.cut(Integer.MIN_VALUE));
        DUE.same("cut(MAX)", false, x.cut(Integer.MAX_VALUE));
        DUE.same("cut beyond the end", false, x.cut(FIRST.length() + 10));
        DUE.same("cut at the end", true, x.cut(FIRST.length() + 9));
        DUE.same("cut of what is too much", true, x.cut(FIRST.length()));
        DUE.same("cut of what was cut", false, x.cut(FIRST.length() + 1));
        DUE.same("load() of what is left", 0, x.load());
        Due.type(x, "xyz");
        x.cut(0);
        Due.type(x, FIRST);
        DUE.same("characters behind a cut come where it was", 0, x.load());
    }

    private static void fault(int want, String text) {
        DUE.same("load() of " + text, want, Due.load(new ChessRules(), text));
    }

    private static void promise4Shape() {
        fault(0, "4k3/8/8/8/8/8/8/4K3 w - - 0 1");
        fault(0, "4k3/8/8/8/8/8/8/4K3 b - - 999 999");
        for (String bad : new String[] {
            "", " ", "4k3/8/8/8/8/8/8/4K3", "4k3/8/8/8/8/8/8/4K3 w - - 0", "4k3/8/8/8/8/8/8/4K3 w - - 0 ",
            " 4k3/8/8/8/8/8/8/4K3 w - - 0 1", "4k3/8/8/8/8/8/8/4K3 w - - 0 1 ", "4k3/8/8/8/8/8/8/4K3  w - - 0 1",
            "4k3/8/8/8/8/8/8/4K3 w  - - 0 1", "4k3/8/8/8/8/8/8/4K3 w -- 0 1", "4k3/8/8/8/8/8/8/4K3 w - - 0 1x",
            "4k3/8/8/8/8/8/4K3 w - - 0 1", "4k3/8/8/8/8/8/8/8/4K3 w - - 0 1", "4k3/8/8/8/8/8/8/4K3/ w - - 0 1",
            "/4k3/8/8/8/8/8/8/4K3 w - - 0 1", "4k3/8/8/8/8/8/8/4K4 w - - 0 1", "4k3/8/8/8/8/8/8/4K2 w - - 0 1",
            "4k3/8/8/8/8/8/44/4K3 w - - 0 1", "4k21/8/8/8/8/8/8/4K3 w - - 0 1", "4k3/9/8/8/8/8/8/4K3 w - - 0 1",
            "4k3/0p7/8/8/8/8/8/4K3 w - - 0 1", "4k3/80/8/8/8/8/8/4K3 w - - 0 1", "4k3/p8/8/8/8/8/8/4K3 w - - 0 1",
            "4k3/ppppppppp/8/8/8/8/8/4K3 w - - 0 1", "4k3//8/8/8/8/8/4K3 w - - 0 1", "4k3/x7/8/8/8/8/8/4K3 w - - 0 1",
            "4k3/ 7/8/8/8/8/8/4K3 w - - 0 1", "4k3/8/8/8 8/8/8/4K3 w - - 0 1", "4k3/8/8/8/8/8/8/4K3 W - - 0 1",
            "4k3/8/8/8/8/8/8/4K3 x - - 0 1", "4k3/8/8/8/8/8/8/4K3 wb - - 0 1", "4k3/8/8/8/8/8/8/4K3 - - - 0 1",
            "4k3/8/8/8/8/8/8/4K3 w  - 0 1", "r3k2r/8/8/8/8/8/8/R3K2R w QK - 0 1", "r3k2r/8/8/8/8/8/8/R3K2R w kK - 0 1",
            "r3k2r/8/8/8/8/8/8/R3K2R w KK - 0 1", "r3k2r/8/8/8/8/8/8/R3K2R w -K - 0 1", "r3k2r/8/8/8/8/8/8/R3K2R w K- - 0 1",
            "r3k2r/8/8/8/8/8/8/R3K2R w KQkqK - 0 1", "4k3/8/8/8/8/8/8/4K3 w - e 0 1", "4k3/8/8/8/8/8/8/4K3 w - i3 0 1",
            "4k3/8/8/8/8/8/8/4K3 w - e9 0 1", "4k3/8/8/8/8/8/8/4K3 w - e0 0 1", "4k3/8/8/8/8/8/8/4K3 w - E3 0 1",
            "4k3/8/8/8/8/8/8/4K3 w - 3e 0 1", "4k3/8/8/8/8/8/8/4K3 w - -3 0 1", "4k3/8/8/8/8/8/8/4K3 w - - 00 1",
            "4k3/8/8/8/8/8/8/4K3 w - - 01 1", "4k3/8/8/8/8/8/8/4K3 w - - 1000 1", "4k3/8/8/8/8/8/8/4K3 w - - -1 1",
            "4k3/8/8/8/8/8/8/4K3 w - - x 1", "4k3/8/8/8/8/8/8/4K3 w - -  1", "4k3/8/8/8/8/8/8/4K3 w - - 0 0",
            "4k3/8/8/8/8/8/8/4K3 w - - 0 01", "4k3/8/8/8/8/8/8/4K3 w - - 0 1000", "4k3/8/8/8/8/8/8/4K3 w - - 0 -",
            "4k3/8/8/8/8/8/8/4K3 w - - 0 1.", "4k3/8/8/8/8/8/8/4K3 w - - +1 1",
        }) {
            fault(1, bad);
        }
    }

    private static void promise4Men() {
        fault(2, "8/8/8/8/8/8/8/8 w - - 0 1");
        fault(2, "4k3/8/8/8/8/8/8/8 w - - 0 1");
        fault(2, "8/8/8/8/8/8/8/4K3 b - - 0 1");
        fault(2, "4k3/8/8/8/8/8/8/K3K3 w - - 0 1");
        fault(2, "k3k3/8/8/8/8/8/8/4K3 w - - 0 1");
        fault(3, "P3k3/8/8/8/8/8/8/4K3 w - - 0 1");
        fault(3, "4k3/8/8/8/8/8/8/4K2P w - - 0 1");
        fault(3, "4k2p/8/8/8/8/8/8/4K3 w - - 0 1");
        fault(3, "4k3/8/8/8/8/8/8/p3K3 w - - 0 1");
        fault(0, "4k3/P6P/8/8/8/8/p6p/4K3 w - - 0 1");
        fault(4, "4k3/8/8/8/8/8/8/4R1K1 w - - 0 1");
        fault(0, "4k3/8/8/8/8/8/8/4R1K1 b - - 0 1");
        fault(4, "4k3/8/8/8/8/8/4r3/4K3 b - - 0 1");
        fault(0, "4k3/8/8/8/8/8/4r3/4K3 w - - 0 1");
        fault(4, "8/8/8/3kK3/8/8/8/8 w - - 0 1");
        fault(4, "8/8/8/3kK3/8/8/8/8 b - - 0 1");
        fault(4, "4k3/3P4/8/8/8/8/8/4K3 w - - 0 1");
        fault(4, "4k3/8/8/8/8/8/5p2/4K3 b - - 0 1");
        fault(4, "4k3/8/3N4/8/8/8/8/4K3 w - - 0 1");
        fault(0, "4k3/4P3/8/8/8/8/8/4K3 w - - 0 1");
        fault(0, "QQQQQQQQ/QQQQQQQQ/8/8/8/7p/K6p/5nbk b - - 0 1");
    }

    private static void promise4RightsAndPassed() {
        fault(0, "r3k2r/8/8/8/8/8/8/R3K2R w KQkq - 0 1");
        fault(0, "r3k2r/8/8/8/8/8/8/R3K2R b Qk - 0 1");
        fault(5, "r3k2r/8/8/8/8/8/8/R3K3 w K - 0 1");
        fault(5, "r3k2r/8/8/8/8/8/8/4K2R w Q - 0 1");
        fault(5, "r3k3/8/8/8/8/8/8/R3K2R w k - 0 1");
        fault(5, "4k2r/8/8/8/8/8/8/R3K2R w q - 0 1");
        fault(5, "r3k2r/8/8/8/8/8/8/R2K3R w K - 0 1");
        fault(5, "r2k3r/8/8/8/8/8/8/R3K2R w q - 0 1");
        fault(5, "r3k2r/8/8/8/8/8/8/R3KB1r w K - 0 1");
        fault(5, "r3k2R/8/8/8/8/8/8/R3K2R b k - 0 1");
        fault(0, "4k3/8/8/3pP3/8/8/8/4K3 w - d6 0 1");
        fault(0, "4k3/8/8/8/3pP3/8/8/4K3 b - e3 0 1");
        fault(6, "4k3/8/8/3pP3/8/8/8/4K3 b - d6 0 1");
        fault(6, "4k3/8/8/8/3pP3/8/8/4K3 w - e3 0 1");
        fault(6, "4k3/8/8/3pP3/8/8/8/4K3 w - e6 0 1");
        fault(6, "4k3/8/3n4/3pP3/8/8/8/4K3 w - d6 0 1");
        fault(6, "4k3/3p4/8/3pP3/8/8/8/4K3 w - d6 0 1");
        fault(6, "4k3/8/8/8/3pP3/8/4N3/4K3 b - e3 0 1");
        fault(6, "4k3/8/8/3p4/8/8/8/4K3 w - d6 0 1");
        fault(6, "4k3/8/8/3p1P2/8/8/8/4K3 w - d6 0 1");
        fault(6, "4k3/8/8/3PP3/8/8/8/4K3 w - d6 0 1");
        fault(6, "4k3/8/8/3nP3/8/8/8/4K3 w - d6 0 1");
        fault(6, "4k3/8/8/3bP3/8/8/8/4K3 w - d5 0 1");
        fault(6, "4k3/8/8/8/8/8/8/4K3 w - a1 0 1");
        fault(6, "4k3/8/8/8/8/8/8/4K3 w - h8 0 1");
        // A pawn of the other edge is not beside it.
        fault(6, "4k3/8/P7/7p/8/8/8/4K3 w - h6 0 1");
        fault(6, "4k3/8/8/p6P/8/8/8/4K3 w - a6 0 1");
        // A pawn that must not take because of its king attacks all the same.
        fault(0, "4r1k1/8/8/3pP3/8/8/8/4K3 w - d6 0 1");
    }

    private static void promise4FirstFaultCounts() {
        fault(1, "8/8/8/8/8/8/8/8 w - - 0 0");
        fault(2, "P7/8/8/8/8/8/8/8 w K e3 0 1");
        fault(3, "P3k3/8/8/8/8/8/8/4R1K1 w K e3 0 1");
        fault(4, "4k3/8/8/8/8/8/8/4R1K1 w K e3 0 1");
        fault(5, "4k3/8/8/8/8/8/8/6K1 w K e3 0 1");
        fault(6, "4k3/8/8/8/8/8/8/6K1 w - e3 0 1");
    }

    private static void promise4State() {
        ChessRules x = new ChessRules();
        Due.play(x, "e2e4 e7e5 g1f3");
        String before = Due.written(x);
        String bad = "4k3/8/8/8/8/8/8/4R1K1 w - - 0 1";
        DUE.same("load() with a fault", 4, Due.load(x, bad));
        DUE.textHas(bad.length(), x);
        Due.type(x, bad);
        DUE.same("the position behind a fault", before, Due.written(x));
        DUE.same("the game behind a fault", Due.move("g1f3"), x.played(2));
        DUE.same("the occurrence behind a fault", 1, x.occurrence());
        DUE.same("a move behind a fault", 4, x.play(Due.move("b8c6")));
        String good = "4k3/8/8/8/8/8/8/4R1K1 b - - 12 34";
        DUE.same("load()", 0, Due.load(x, good));
        DUE.same("the text behind load()", false, x.cut(1));
        DUE.same("OUT stays", before.charAt(0), x.out(0));
        DUE.same("OUT stays to its end", before.charAt(before.length() - 1), x.out(before.length() - 1));
        DUE.thrown("a new game", IllegalStateException.class, () -> x.back());
        DUE.thrown("a new game's moves", IndexOutOfBoundsException.class, () -> x.played(0));
        DUE.same("the position that was told", good, Due.written(x));
    }

    private static void promise5() {
        for (String text : new String[] {
            FIRST, "r3k2r/8/8/8/8/8/8/R3K2R w KQkq - 10 100", "r3k2r/8/8/8/8/8/8/R3K2R b Kq - 9 99",
            "r3k2r/8/8/8/8/8/8/R3K2R b Qk - 999 999", "4k3/8/8/3pP3/8/8/8/4K3 w - d6 0 1",
            "8/7k/8/8/8/pP6/8/K7 b - - 100 10", "4k3/8/8/8/pP6/8/8/4K3 b - b3 0 7",
            "k1q1q1q1/1n1n1n1n/N1N1N1N1/1b1b1b1b/B1B1B1B1/1r1r1r1r/Q1Q1Q1QQ/1q1q1qBK b - - 109 910",
        }) {
            ChessRules x = new ChessRules();
            int fault = Due.load(x, text);
            DUE.same("write() of " + text, text, fault == 0 ? Due.written(x) : "fault " + fault);
            DUE.same("the length of " + text, text.length(), x.write());
        }
        ChessRules x = Due.from("r3k2r/8/8/8/8/8/8/R3K2R b KQkq - 9 999");
        Due.play(x, "e8d8");
        DUE.same("a number above 999", "r2k3r/8/8/8/8/8/8/R3K2R w KQ - 10 999", Due.written(x));
        DUE.same("the number itself", 1000, x.about(4));
        x.back();
        DUE.same("the number taken back", 999, x.about(4));
    }

    private static void promise6() {
        ChessRules x = new ChessRules();
        DUE.same("OUT before write()", 0, x.out(0));
        int length = x.write();
        for (int i = 0; i < length; i++) {
            DUE.same("out(" + i + ")", FIRST.charAt(i), x.out(i));
        }
        for (int i : new int[] {-1, length, 99, 100, Integer.MIN_VALUE, Integer.MAX_VALUE}) {
            DUE.same("out(" + i + ")", 0, x.out(i));
        }
        Due.load(x, "4k3/8/8/8/8/8/8/4K3 w - - 0 1");
        int shorter = x.write();
        DUE.same("a shorter text", 29, shorter);
        DUE.same("its last character", '1', x.out(28));
        DUE.same("nothing is left of the longer one", 0, x.out(29));
    }
}
