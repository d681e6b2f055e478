/** The sentences that the document begins with: what the class is for, and how many calls an object answers. */
final class BeginningSentences {
    static final String BEGINNING = "What it is";
    private static final String MATE = "f2f3 e7e5 g2g4 d8h4";
    /** The shortest game to a stalemate that is known; behind its eleventh move black is in check. */
    private static final String TO_CHECK = "e2e3 a7a5 d1h5 a8a6 h5a5 h7h5 h2h4 a6h6 a5c7 f7f6 c7d7";
    private static final String FROM_CHECK = "e8f7 d7b7 d8d3 b7b8 d3h7 b8c8 f7g6 c8e6";
    private static final String LAST_PAWN_IS_TAKEN = "4k3/8/8/8/8/8/3p4/4K3 w - - 0 1";

    private BeginningSentences() {
    }

    static void tell(Sentences s) {
        s.holds(BEGINNING, "The laws of chess: positions told by a text, all moves that may be made, played and taken back;",
                BeginningSentences::textsAndMoves);
        s.holds(BEGINNING, "checks, mates, stalemates, what may be claimed and what ends a game by itself;", BeginningSentences::ends);
        s.holds(BEGINNING, "and how many ways there are to go on.", BeginningSentences::goOn);
        s.holds(BEGINNING, "An object is used for at most 512 calls after it has been made; what later calls answer is free.",
                BeginningSentences::allCalls);
    }

    private static void textsAndMoves(Due due) {
        ChessRules x = Due.from(Texts.CASTLES);
        due.same("the text", Texts.CASTLES, Due.written(x));
        int count = x.moves();
        due.same("moves()", 26, count);
        for (int k = 0; k < count; k++) {
            int move = x.move(k);
            due.same("play of " + Due.name(move), 1, x.play(move));
            due.same("played(0)", move, x.played(0));
            due.same("back()", 0, x.back());
        }
        due.same("the text behind them all", Texts.CASTLES, Due.written(x));
    }

    private static void ends(Due due) {
        stands(due, MATE, 1, 1, 0);
        stands(due, TO_CHECK, 1, 0, 0);
        stands(due, TO_CHECK + " " + FROM_CHECK, 0, 2, 0);
        stands(due, twice(Games.KNIGHTS_TO_AND_FRO), 0, 0, 1);
        stands(due, twice(twice(Games.KNIGHTS_TO_AND_FRO)), 0, 4, 0);
        ChessRules x = Due.from(LAST_PAWN_IS_TAKEN);
        due.same("play", 1, x.play(Due.move("e1d2")));
        due.same("result() when kings alone are left", 3, x.result());
    }

    private static String twice(String moves) {
        return moves + " " + moves;
    }

    private static void stands(Due due, String moves, int check, int result, int claims) {
        ChessRules x = new ChessRules();
        Due.play(x, moves);
        due.same("about(5) behind " + moves, check, x.about(5));
        due.same("result() behind " + moves, result, x.result());
        due.same("claims() behind " + moves, claims, x.claims());
    }

    private static void goOn(Due due) {
        ChessRules x = new ChessRules();
        due.same("ways(3) at first", 8902, x.ways(3));
        Due.play(x, TO_CHECK);
        due.same("ways(1) in check: four men may take the queen, or the king goes", 5, x.ways(1));
        Due.play(x, FROM_CHECK);
        due.same("ways(1) in stalemate", 0, x.ways(1));
    }

    /** A text, a full game and all that is left of 512 calls: the last ones are answered as the first ones. */
    private static void allCalls(Due due) {
        ChessRules x = new ChessRules();
        int calls = 0;
        for (int start = 0; start < Games.ROOKS.length(); start += 8) {
            String part = Games.ROOKS.substring(start, Math.min(start + 8, Games.ROOKS.length()));
            due.same("type", true, x.type(Due.packed(part), part.length()));
            calls++;
        }
        due.same("load()", 0, x.load());
        calls++;
        for (String move : Games.rooks(Games.LIMIT, 100, 249, 330)) {
            x.play(Due.move(move));
            calls++;
        }
        while (calls < 510) {
            due.same("occurrence() as call " + (calls + 1), 1, x.occurrence());
            calls++;
        }
        due.same("about(3) as call 511", 69, x.about(3));
        due.same("back() as call 512", 399, x.back());
    }
}
