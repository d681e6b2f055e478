/** Promise 18: ways. The numbers of the known positions are those that chess programmers publish. */
public final class WaysTest {
    private static final Due DUE = new Due();

    public static void main(String[] args) {
        known("rnbqkbnr/pppppppp/8/8/8/8/PPPPPPPP/RNBQKBNR w KQkq - 0 1", 20, 400, 8902);
        known("r3k2r/p1ppqpb1/bn2pnp1/3PN3/1p2P3/2N2Q1p/PPPBBPPP/R3K2R w KQkq - 0 1", 48, 2039, 97862);
        known("8/2p5/3p4/KP5r/1R3p1k/8/4P1P1/8 w - - 0 1", 14, 191, 2812);
        known("r3k2r/Pppp1ppp/1b3nbN/nP6/BBP1P3/q4N2/Pp1P2PP/R2Q1RK1 w kq - 0 1", 6, 264, 9467);
        known("rnbq1k1r/pp1Pbppp/2p5/8/2B5/8/PPP1NnPP/RNBQK2R w KQ - 1 8", 44, 1486, 62379);
        known("r4rk1/1pp1qppp/p1np1n2/2b1p1B1/2B1P1b1/P1NP1N2/1PP1QPPP/R4RK1 w - - 0 10", 46, 2079, 89890);
        known("n1n5/PPPk4/8/8/8/8/4Kppp/5N1N b - - 0 1", 24, 496, 9483);
        known("r3k2r/8/8/8/8/8/8/R3K2R w KQkq - 0 1", 26, 568, 13744);
        whateverResultTells();
        wrongDepths();
        DUE.end();
    }

    private static void known(String text, long one, long two, long three) {
        ChessRules x = Due.from(text);
        DUE.same("ways(0) of " + text, 1, x.ways(0));
        DUE.same("ways(1) of " + text, one, x.ways(1));
        DUE.same("ways(2) of " + text, two, x.ways(2));
        DUE.same("ways(3) of " + text, three, x.ways(3));
        DUE.same("the position behind ways", text, Due.written(x));
        DUE.same("its occurrence behind ways", 1, x.occurrence());
        DUE.thrown("its game behind ways", IllegalStateException.class, () -> x.back());
        DUE.same("its moves behind ways", one, x.moves());
    }

    private static void whateverResultTells() {
        ChessRules mated = Due.from("R5k1/5ppp/8/8/8/8/8/6K1 b - - 0 1");
        DUE.same("ways(0) of a mated side", 1, mated.ways(0));
        DUE.same("ways(1) of a mated side", 0, mated.ways(1));
        DUE.same("ways(3) of a mated side", 0, mated.ways(3));
        ChessRules little = Due.from("7k/8/8/8/8/8/8/K7 w - - 0 1");
        DUE.same("ways(2) with too little", 9, little.ways(2));
        DUE.same("ways(3) with too little", 54, little.ways(3));
        ChessRules late = Due.from("7k/8/8/8/8/8/7p/K7 w - - 999 999");
        DUE.same("ways(1) with the clock run out", 3, late.ways(1));
        DUE.same("ways(2) with the clock run out", 21, late.ways(2));
        DUE.same("the clock", 999, late.about(3));
    }

    private static void wrongDepths() {
        ChessRules x = new ChessRules();
        for (int depth : new int[] {-1, 4, 5, Integer.MIN_VALUE, Integer.MAX_VALUE}) {
            DUE.thrown("ways(" + depth + ")", IllegalArgumentException.class, () -> x.ways(depth));
        }
    }
}
