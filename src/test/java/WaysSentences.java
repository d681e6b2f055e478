/** The sentences of promise 18, ways. */
final class WaysSentences {
    private static final String WAYS = "Promise 18: ways";

    private WaysSentences() {
    }

    static void tell(Sentences s) {
        s.holds(WAYS, "How many ways there are to play so many moves one behind the other", WaysSentences::manyWays);
        s.holds(WAYS, "(1 for none)", WaysSentences::oneForNone);
        s.holds(WAYS, "by legal moves alone", WaysSentences::legalAlone);
        s.holds(WAYS, "(whatever result() tells).", WaysSentences::whateverResultTells);
        s.holds(WAYS, "IllegalArgumentException when depth is not 0 .. 3.", WaysSentences::wrongDepths);
    }

    private static void ways(Due due, String text, long... want) {
        ChessRules x = Due.from(text);
        String before = Due.picture(x);
        for (int depth = 0; depth < want.length; depth++) {
            due.same("ways(" + depth + ") of " + text, want[depth], x.ways(depth));
        }
        due.same("nothing changed by ways", before, Due.picture(x));
        ChessRules y = Due.from(Texts.mirrored(text));
        for (int depth = 0; depth < want.length; depth++) {
            due.same("ways(" + depth + ") with sides exchanged", want[depth], y.ways(depth));
        }
    }

    /** These numbers are those that chess programmers publish. */
    private static void manyWays(Due due) {
        ways(due, Texts.FIRST, 1, 20, 400, 8902);
        ways(due, "r3k2r/p1ppqpb1/bn2pnp1/3PN3/1p2P3/2N2Q1p/PPPBBPPP/R3K2R w KQkq - 0 1", 1, 48, 2039, 97862);
        ways(due, "8/2p5/3p4/KP5r/1R3p1k/8/4P1P1/8 w - - 0 1", 1, 14, 191, 2812);
        ways(due, "r3k2r/Pppp1ppp/1b3nbN/nP6/BBP1P3/q4N2/Pp1P2PP/R2Q1RK1 w kq - 0 1", 1, 6, 264, 9467);
        ways(due, "rnbq1k1r/pp1Pbppp/2p5/8/2B5/8/PPP1NnPP/RNBQK2R w KQ - 1 8", 1, 44, 1486, 62379);
        ways(due, "r4rk1/1pp1qppp/p1np1n2/2b1p1B1/2B1P1b1/P1NP1N2/1PP1QPPP/R4RK1 w - - 0 10", 1, 46, 2079, 89890);
        ways(due, "n1n5/PPPk4/8/8/8/8/4Kppp/5N1N b - - 0 1", 1, 24, 496, 9483);
        ways(due, Texts.CASTLES, 1, 26, 568, 13744);
        // The ways of three moves are the ways of two behind each move, and so on down.
        for (String text : new String[] {Texts.FIRST, Texts.CASTLES, "4k3/3p4/8/2P1P3/8/8/8/4K3 b - - 0 1"}) {
            ChessRules x = Due.from(text);
            int count = x.moves();
            for (int depth = 1; depth <= 3; depth++) {
                long sum = 0;
                for (int k = 0; k < count; k++) {
                    x.play(x.move(k));
                    sum += x.ways(depth - 1);
                    x.back();
                }
                due.same("ways(" + depth + ") of " + text, sum, x.ways(depth));
            }
        }
    }

    /** The same numbers as the plain second writing of the document has. */
    private static void asPlain(Due due, String text) {
        PlainChess plain = new PlainChess();
        for (int i = 0; i < text.length(); i++) {
            plain.type(text.charAt(i), 1);
        }
        due.same("load() of " + text, 0, plain.load());
        ways(due, text, plain.ways(0), plain.ways(1), plain.ways(2), plain.ways(3));
    }

    private static void oneForNone(Due due) {
        for (String text : new String[] {Texts.FIRST, Texts.KINGS, Texts.MATED, Texts.STALEMATE, Texts.CASTLES,
            "4k3/8/8/8/8/8/8/R3K3 w - - 999 1"}) {
            due.same("ways(0) of " + text, 1, Due.from(text).ways(0));
        }
        due.same("ways(0) behind 400 moves", 1, Games.full().ways(0));
    }

    private static void legalAlone(Due due) {
        ways(due, Texts.MATED, 1, 0, 0, 0);
        ways(due, Texts.STALEMATE, 1, 0, 0, 0);
        asPlain(due, "8/8/8/8/8/8/2k5/K7 w - - 0 1");
        asPlain(due, "R5k1/5p1p/8/8/8/8/8/6K1 b - - 0 1");
        asPlain(due, "4k3/4r3/8/8/8/8/3PNP2/4K3 w - - 0 1");
        // A held pawn may not take on the passed square.
        ways(due, Texts.of("Ke1 ka4 Rh4 pd4 Pe4", "b - e3 0 1"), 1, 6);
        ways(due, Texts.of("Ke1 ka5 Rh4 pd4 Pe4", "b - e3 0 1"), 1, 7);
    }

    private static void whateverResultTells(Due due) {
        ways(due, "7k/8/8/8/8/8/8/K7 w - - 0 1", 1, 3, 9, 54);
        ways(due, "7k/8/8/8/8/8/7p/K7 w - - 999 999", 1, 3, 21);
        ways(due, "7k/8/8/8/8/8/7p/K7 w - - 149 999", 1, 3, 21);
        // The last man is taken by the first move, and the ways go on.
        asPlain(due, "7k/8/8/8/8/8/1p6/K7 w - - 0 1");
        asPlain(due, "7k/8/8/8/8/8/1p6/K7 w - - 149 1");
        ChessRules fifth = Games.fifthTime();
        due.same("over", 4, fifth.result());
        due.same("ways(3) at the fifth time", 8902, fifth.ways(3));
        // One of these ways goes through the fifth time.
        ChessRules fourth = new ChessRules();
        Games.repeat(fourth, Games.KNIGHTS_TO_AND_FRO, 3);
        Due.play(fourth, "g1f3 g8f6 f3g1");
        ChessRules first = Due.from("rnbqkb1r/pppppppp/5n2/8/8/8/PPPPPPPP/RNBQKBNR b KQkq - 0 1");
        for (int depth = 0; depth <= 3; depth++) {
            due.same("ways(" + depth + ") before the fifth time", first.ways(depth), fourth.ways(depth));
        }
        ChessRules full = Games.full();
        due.same("ways(1) behind 400 moves", full.moves(), full.ways(1));
        due.same("ways(2) behind 400 moves is more", true, full.ways(2) > full.ways(1));
        ChessRules late = Games.fullAndClockRanOut();
        due.same("ways(1) when the clock ran out", late.moves(), late.ways(1));
    }

    private static void wrongDepths(Due due) {
        ChessRules x = new ChessRules();
        String before = Due.picture(x);
        for (int depth : new int[] {-1, -2, 4, 5, 6, 64, 256, 259, 65536, Integer.MIN_VALUE, Integer.MIN_VALUE + 3, Integer.MAX_VALUE}) {
            due.illegal("ways(" + depth + ")", () -> x.ways(depth));
        }
        due.same("nothing changed", before, Due.picture(x));
        due.same("ways(3)", 8902, x.ways(3));
        ChessRules mated = Due.from(Texts.MATED);
        due.illegal("ways(4) of a mated side", () -> mated.ways(4));
        due.illegal("ways(-1) of a mated side", () -> mated.ways(-1));
    }
}
