/** Games that are played without asking the object for moves: it is used for at most 512 calls. */
final class Games {
    static final int LIMIT = 400;
    /** Rooks walk along their first ranks on ways of seven and of six squares, so a position comes again after 84 moves. */
    static final String ROOKS = "r6k/pppppppp/8/8/8/8/PPPPPPPP/R6K w - - 0 1";
    static final String KNIGHTS_TO_AND_FRO = "g1f3 g8f6 f3g1 f6g8";
    static final String KINGS_TO_AND_FRO = "h1g1 h8g8 g1h1 g8h8";

    private Games() {
    }

    /** The rooks' game; at each told place a pawn's step is played, which sets the clock to 0. */
    static String[] rooks(int length, int... pawnSteps) {
        String[] moves = new String[length];
        int[] files = {0, 0};
        int[] ways = {7, 6};
        int steps = 0;
        for (int i = 0; i < length; i++) {
            int side = i % 2;
            if (steps < pawnSteps.length && pawnSteps[steps] == i) {
                char file = (char) ('a' + steps);
                moves[i] = side == 0 ? file + "2" + file + "3" : file + "7" + file + "6";
                steps++;
            } else {
                int next = (files[side] + 1) % ways[side];
                char rank = side == 0 ? '1' : '8';
                moves[i] = "" + (char) ('a' + files[side]) + rank + (char) ('a' + next) + rank;
                files[side] = next;
            }
        }
        return moves;
    }

    static ChessRules afterRooks(int length, int... pawnSteps) {
        ChessRules x = Due.from(ROOKS);
        Due.play(x, String.join(" ", rooks(length, pawnSteps)));
        return x;
    }

    /** 400 moves, and the game goes on. */
    static ChessRules full() {
        return afterRooks(LIMIT, 100, 249, 330);
    }

    /** 400 moves, the last of which brings the clock to 150. */
    static ChessRules fullAndClockRanOut() {
        return afterRooks(LIMIT, 100, 249);
    }

    /** 400 moves, behind which the position stands for the fifth time. */
    static ChessRules fullAndFifthTime() {
        ChessRules x = afterRooks(LIMIT - 16, 100, 249, 330);
        repeat(x, KINGS_TO_AND_FRO, 4);
        return x;
    }

    static void repeat(ChessRules x, String moves, int times) {
        for (int i = 0; i < times; i++) {
            Due.play(x, moves);
        }
    }

    /** The first position for the fifth time. */
    static ChessRules fifthTime() {
        ChessRules x = new ChessRules();
        repeat(x, KNIGHTS_TO_AND_FRO, 4);
        return x;
    }
}
