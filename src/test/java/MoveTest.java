import java.util.ArrayList;
import java.util.List;
import java.util.Random;

/** Promises 10 to 14: moves, move, play, back, played. */
public final class MoveTest {
    private static final Due DUE = new Due();

    public static void main(String[] args) {
        promise10And11Order();
        pawns();
        passing();
        castling();
        checks();
        promise11Wrong();
        promise12();
        promise12Wrong();
        promise12Over();
        promise12Limit();
        promise13();
        promise13WholeGames();
        promise14();
        DUE.end();
    }

    private static void moves(String text, String want) {
        ChessRules x = Due.from(text);
        DUE.same("moves of " + text, want, Due.moves(x));
        DUE.same("how many of " + text, want.isEmpty() ? 0 : want.split(" ").length, x.moves());
    }

    /** Only the moves of the man on one square, by its name. */
    private static void movesFrom(String square, String text, String want) {
        StringBuilder got = new StringBuilder();
        for (String name : Due.moves(Due.from(text)).split(" ")) {
            if (name.startsWith(square)) {
                got.append(got.length() == 0 ? "" : " ").append(name.substring(2));
            }
        }
        DUE.same("moves from " + square + " of " + text, want, got.toString());
    }

    private static void promise10And11Order() {
        DUE.same("the first position's moves",
                "b1a3 b1c3 g1f3 g1h3 a2a3 a2a4 b2b3 b2b4 c2c3 c2c4 d2d3 d2d4 e2e3 e2e4 f2f3 f2f4 g2g3 g2g4 h2h3 h2h4",
                Due.moves(new ChessRules()));
        moves("8/8/8/8/8/k7/8/K2R4 w - - 0 1", "a1b1 d1b1 d1c1 d1e1 d1f1 d1g1 d1h1 d1d2 d1d3 d1d4 d1d5 d1d6 d1d7 d1d8");
        movesFrom("d4", "6k1/8/8/8/3Q2p1/1P6/5N2/K7 w - - 0 1",
                "d1 b2 d2 c3 d3 e3 a4 b4 c4 e4 f4 g4 c5 d5 e5 b6 d6 f6 a7 d7 g7 d8 h8");
        movesFrom("b7", "n6k/1P6/8/8/8/8/8/K7 w - - 0 1", "a8n a8b a8r a8q b8n b8b b8r b8q");
        movesFrom("g2", "7k/8/8/8/8/8/6p1/K4B2 b - - 0 1", "f1n f1b f1r f1q g1n g1b g1r g1q");
    }

    private static void pawns() {
        movesFrom("e2", "7k/8/8/8/8/8/4P3/K7 w - - 0 1", "e3 e4");
        movesFrom("e2", "7k/8/8/8/4p3/8/4P3/K7 w - - 0 1", "e3");
        movesFrom("e2", "7k/8/8/8/8/4p3/4P3/K7 w - - 0 1", "");
        movesFrom("e3", "7k/8/8/8/8/4P3/8/K7 w - - 0 1", "e4");
        movesFrom("e7", "7k/4p3/8/8/8/8/8/K7 b - - 0 1", "e5 e6");
        movesFrom("e7", "7k/4p3/4N3/8/8/8/8/K7 b - - 0 1", "");
        movesFrom("e7", "7k/4p3/8/4N3/8/8/8/K7 b - - 0 1", "e6");
        movesFrom("e6", "7k/8/4p3/8/8/8/8/K7 b - - 0 1", "e5");
        movesFrom("e4", "7k/8/8/3npn2/4P3/8/8/K7 w - - 0 1", "d5 f5");
        movesFrom("e4", "7k/8/8/3NpN2/4P3/8/8/K7 w - - 0 1", "");
        movesFrom("h4", "7k/8/p7/p5pp/7P/8/8/K7 w - - 0 1", "g5");
        movesFrom("a5", "7k/8/8/p7/PP5P/7P/8/K7 b - - 0 1", "b4");
    }

    private static void passing() {
        movesFrom("e5", "4k3/8/8/3pP3/8/8/8/4K3 w - d6 0 1", "d6 e6");
        movesFrom("e5", "4k3/8/8/3pP3/8/8/8/4K3 w - - 0 1", "e6");
        movesFrom("c5", "4k3/8/8/2PpP3/8/8/8/4K3 w - d6 0 1", "c6 d6");
        movesFrom("d4", "4k3/8/8/8/3pP3/8/8/4K3 b - e3 0 1", "d3 e3");
        // Only pawns take there.
        movesFrom("d1", "4k3/8/8/3pP3/8/8/8/3QK3 w - d6 0 1", "a1 b1 c1 c2 d2 e2 b3 d3 f3 a4 d4 g4 d5 h5");
        // The king would stand open on the file, on the rank (two pawns gone at once), on the diagonal.
        movesFrom("e5", "4r1k1/8/8/3pP3/8/8/8/4K3 w - d6 0 1", "e6");
        movesFrom("d4", "8/8/8/8/k2pP2R/8/8/4K3 b - e3 0 1", "d3");
        movesFrom("e5", "b5k1/8/8/3pP3/8/5K2/8/8 w - d6 0 1", "e6");
        // The pawn that passed gives check: to take it is legal.
        moves("8/8/8/2k5/3Pp3/8/8/4K3 b - d3 0 1", "e4d3 c5b4 c5c4 c5d4 c5b5 c5d5 c5b6 c5c6 c5d6");
        ChessRules x = Due.from("4k3/8/8/3pP3/8/8/8/4K3 w - d6 0 1");
        Due.play(x, "e5d6");
        DUE.same("the pawn beside it is taken", "4k3/8/3P4/8/8/8/8/4K3 b - - 0 1", Due.written(x));
        x.back();
        DUE.same("and stands again", "4k3/8/8/3pP3/8/8/8/4K3 w - d6 0 1", Due.written(x));
        ChessRules black = Due.from("4k3/8/8/8/3pP3/8/8/4K3 b - e3 0 1");
        Due.play(black, "d4e3");
        DUE.same("taken by black", "4k3/8/8/8/8/4p3/8/4K3 w - - 0 2", Due.written(black));
    }

    private static void king(String text, String want) {
        movesFrom(text.contains(" w ") ? "e1" : "e8", text, want);
    }

    private static void castling() {
        king("4k3/8/8/8/8/8/8/R3K2R w KQ - 0 1", "c1 d1 f1 g1 d2 e2 f2");
        king("4k3/8/8/8/8/8/8/R3K2R w K - 0 1", "d1 f1 g1 d2 e2 f2");
        king("4k3/8/8/8/8/8/8/R3K2R w Q - 0 1", "c1 d1 f1 d2 e2 f2");
        king("4k3/8/8/8/8/8/8/R3K2R w - - 0 1", "d1 f1 d2 e2 f2");
        king("r3k2r/8/8/8/8/8/8/4K3 b kq - 0 1", "d7 e7 f7 c8 d8 f8 g8");
        // Something between.
        king("4k3/8/8/8/8/8/8/RN2K1NR w KQ - 0 1", "d1 f1 d2 e2 f2");
        king("4k3/8/8/8/8/8/8/R1B1KB1R w KQ - 0 1", "d1 d2 e2 f2");
        king("4k3/8/8/8/8/8/8/R2QK1nR w KQ - 0 1", "f1 d2 f2");
        // The king in check, the passed square attacked, the last square attacked.
        king("4k3/4r3/8/8/8/8/8/R3K2R w KQ - 0 1", "d1 f1 d2 f2");
        king("4k3/5r2/8/8/8/8/8/R3K2R w KQ - 0 1", "c1 d1 d2 e2");
        king("4k3/3r4/8/8/8/8/8/R3K2R w KQ - 0 1", "f1 g1 e2 f2");
        king("4k3/6r1/8/8/8/8/8/R3K2R w KQ - 0 1", "c1 d1 f1 d2 e2 f2");
        king("4k3/2r5/8/8/8/8/8/R3K2R w KQ - 0 1", "d1 f1 g1 d2 e2 f2");
        // The square beside the rook, and the rook itself, may be attacked.
        king("4k3/1r6/8/8/8/8/8/R3K2R w KQ - 0 1", "c1 d1 f1 g1 d2 e2 f2");
        king("4k3/8/8/8/8/8/8/R3K2R b - - 0 1", "d7 e7 f7 d8 f8");
        king("r3k2r/8/8/8/8/8/8/R3K2R w KQ - 0 1", "c1 d1 f1 g1 d2 e2 f2");
        // A pawn on the second rank attacks the passed square.
        king("4k3/8/8/8/8/8/6p1/R3K2R w KQ - 0 1", "c1 d1 d2 e2 f2");
        ChessRules x = Due.from("r3k2r/8/8/8/8/8/8/R3K2R w KQkq - 5 9");
        Due.play(x, "e1c1 e8g8");
        DUE.same("both castled", "r4rk1/8/8/8/8/8/8/2KR3R w - - 7 10", Due.written(x));
        x.back();
        x.back();
        Due.play(x, "e1g1 e8c8");
        DUE.same("both castled otherwise", "2kr3r/8/8/8/8/8/8/R4RK1 w - - 7 10", Due.written(x));
        x.back();
        x.back();
        DUE.same("and taken back", "r3k2r/8/8/8/8/8/8/R3K2R w KQkq - 5 9", Due.written(x));
    }

    private static void checks() {
        // Held men move along the line only.
        movesFrom("e2", "4r1k1/8/8/8/8/8/4R3/4K3 w - - 0 1", "e3 e4 e5 e6 e7 e8");
        movesFrom("e2", "4r1k1/8/8/8/8/8/4N3/4K3 w - - 0 1", "");
        movesFrom("e2", "4r1k1/8/8/8/8/3p4/4P3/4K3 w - - 0 1", "e3 e4");
        movesFrom("d2", "6k1/8/8/b7/8/8/3B4/4K3 w - - 0 1", "c3 b4 a5");
        // In check: take, shield, go away (not along the line of the check).
        moves("4r1k1/8/8/8/8/8/8/3QK3 w - - 0 1", "d1e2 e1f1 e1d2 e1f2");
        // Two checks: only the king moves.
        moves("4r1k1/8/8/8/7b/8/8/R3K1NR w - - 0 1", "e1d1 e1f1 e1d2");
        // A king does not go next to the other one.
        moves("8/8/8/8/8/2k5/8/K7 w - - 0 1", "a1b1 a1a2");
        // The longest lists that texts can tell are counted too.
        DUE.same("218 moves", 218, Due.from("R6R/3Q4/1Q4Q1/4Q3/2Q4Q/Q4Q2/pp1Q4/kBNN1KB1 w - - 0 1").moves());
    }

    private static void promise11Wrong() {
        ChessRules x = new ChessRules();
        for (int k : new int[] {-1, 20, 21, 1000, Integer.MIN_VALUE, Integer.MAX_VALUE}) {
            DUE.thrown("move(" + k + ")", IndexOutOfBoundsException.class, () -> x.move(k));
        }
        ChessRules mated = Due.from("R5k1/5ppp/8/8/8/8/8/6K1 b - - 0 1");
        DUE.thrown("move(0) of a mated side", IndexOutOfBoundsException.class, () -> mated.move(0));
    }

    private static void promise12() {
        ChessRules x = new ChessRules();
        DUE.same("play e2e4", 1, x.play(12 + 64 * 28));
        DUE.same("play e7e5", 2, x.play(52 + 64 * 36));
        DUE.same("behind two moves", "rnbqkbnr/pppp1ppp/8/4p3/4P3/8/PPPP1PPP/RNBQKBNR w KQkq - 0 2", Due.written(x));
        for (String becomes : new String[] {"n", "b", "r", "q"}) {
            ChessRules p = Due.from("1n5k/P7/8/8/8/8/8/K7 w - - 7 3");
            Due.play(p, "a7b8" + becomes);
            DUE.same("a pawn becomes " + becomes, "1" + becomes.toUpperCase() + "5k/8/8/8/8/8/8/K7 b - - 0 3", Due.written(p));
            p.back();
            DUE.same("and is one again", "1n5k/P7/8/8/8/8/8/K7 w - - 7 3", Due.written(p));
        }
        ChessRules b = Due.from("7k/8/8/8/8/8/p7/7K b - - 0 3");
        Due.play(b, "a2a1r");
        DUE.same("a black pawn becomes a rook", "7k/8/8/8/8/8/8/r6K w - - 0 4", Due.written(b));
    }

    private static void refused(ChessRules x, int move, Class<? extends RuntimeException> why) {
        String before = Due.written(x);
        DUE.thrown("play(" + move + ") of " + before, why, () -> x.play(move));
        DUE.same("nothing changed", before, Due.written(x));
    }

    private static void promise12Wrong() {
        Class<IllegalArgumentException> wrong = IllegalArgumentException.class;
        for (String name : new String[] {"e2e5", "e7e5", "e3e4", "d1d2", "e1g1", "a1a2", "e2e2", "e2e4q", "g1e2"}) {
            refused(new ChessRules(), Due.move(name), wrong);
        }
        int e4 = Due.move("e2e4");
        for (int move : new int[] {-1, 0, Integer.MIN_VALUE, Integer.MAX_VALUE, e4 + 4096, e4 + 6 * 4096, e4 + 8 * 4096,
            e4 + (1 << 24), e4 - (1 << 31), -e4, e4 - 65536}) {
            refused(new ChessRules(), move, wrong);
        }
        int a8 = Due.move("a7a8");
        for (int m : new int[] {0, 1, 6, 7, 8, 10, 13, -1}) {
            ChessRules p = Due.from("7k/P7/8/8/8/8/8/K7 w - - 0 1");
            refused(p, a8 + 4096 * m, wrong);
            DUE.same("it plays still", 1, p.play(a8 + 4096 * 5));
        }
    }

    private static void promise12Over() {
        Class<IllegalArgumentException> wrong = IllegalArgumentException.class;
        Class<IllegalStateException> over = IllegalStateException.class;
        ChessRules little = Due.from("8/8/8/3k4/8/8/3K4/8 w - - 0 1");
        refused(little, Due.move("d2d3"), over);
        refused(little, Due.move("d2d4"), wrong);
        ChessRules late = Due.from("8/8/8/3k4/8/8/P2K4/8 w - - 150 200");
        refused(late, Due.move("a2a3"), over);
        refused(late, Due.move("a2a5"), wrong);
        ChessRules mated = Due.from("R5k1/5ppp/8/8/8/8/8/6K1 b - - 0 1");
        refused(mated, Due.move("g8h8"), wrong);
        ChessRules stale = Due.from("7k/5Q2/8/8/8/8/8/6K1 b - - 0 1");
        refused(stale, Due.move("h8g8"), wrong);
        ChessRules fifth = new ChessRules();
        for (int i = 0; i < 4; i++) {
            Due.play(fifth, "g1f3 g8f6 f3g1 f6g8");
        }
        refused(fifth, Due.move("e2e4"), over);
        refused(fifth, Due.move("e2e5"), wrong);
        DUE.same("back from it", 15, fifth.back());
        DUE.same("on from there", 16, fifth.play(Due.move("f6g4")));
    }

    private static void promise12Limit() {
        ChessRules x = Games.full();
        int legal = x.move(0);
        DUE.same("400 moves: it goes on", 0, x.result());
        DUE.thrown("play of one more", UnsupportedOperationException.class, () -> x.play(legal));
        DUE.thrown("play of what is not legal", IllegalArgumentException.class, () -> x.play(-1));
        DUE.thrown("played(400)", IndexOutOfBoundsException.class, () -> x.played(400));
        DUE.same("back from 400", 399, x.back());
        DUE.same("and to 400 again", 400, x.play(x.move(0)));
        ChessRules over = Games.fullAndClockRanOut();
        int legalToo = over.move(0);
        DUE.same("400 moves: the clock ended it", 5, over.result());
        DUE.thrown("play when it is over", IllegalStateException.class, () -> over.play(legalToo));
    }

    private static void promise13() {
        ChessRules x = new ChessRules();
        DUE.thrown("back() at first", IllegalStateException.class, () -> x.back());
        Due.play(x, "f2f3 e7e5 g2g4 d8h4");
        DUE.same("mate", 1, x.result());
        DUE.same("back from mate", 3, x.back());
        DUE.same("no mate", 0, x.result());
        DUE.same("back", 2, x.back());
        DUE.same("back", 1, x.back());
        DUE.same("back", 0, x.back());
        DUE.thrown("back() once more", IllegalStateException.class, () -> x.back());
        DUE.same("the first position again", Due.written(new ChessRules()), Due.written(x));
        ChessRules late = Due.from("8/8/8/3k4/8/8/P2K4/R7 w - - 149 200");
        Due.play(late, "a1b1");
        DUE.same("over by the clock", 5, late.result());
        DUE.same("back from it", 0, late.back());
        DUE.same("it goes on", 0, late.result());
        Due.play(x, "e2e4");
        Due.load(x, "4k3/8/8/8/8/8/8/4K2R w K - 0 1");
        DUE.thrown("back() behind load()", IllegalStateException.class, () -> x.back());
    }

    private static void promise13WholeGames() {
        String[] starts = {
            "rnbqkbnr/pppppppp/8/8/8/8/PPPPPPPP/RNBQKBNR w KQkq - 0 1",
            "r3k2r/p1ppqpb1/bn2pnp1/3PN3/1p2P3/2N2Q1p/PPPBBPPP/R3K2R w KQkq - 0 1",
            "n1n5/PPPk4/8/8/8/8/4Kppp/5N1N b - - 0 1",
            "4k3/pppppppp/8/PPPPPPPP/pppppppp/8/PPPPPPPP/4K3 w - - 0 1",
        };
        for (int run = 0; run < 60; run++) {
            String start = starts[run % starts.length];
            List<Integer> moves = randomMoves(start, new Random(run));
            for (int left = 0; left < moves.size(); left++) {
                ChessRules x = behind(start, moves);
                for (int n = moves.size() - 1; n >= left; n--) {
                    DUE.same("back in run " + run, n, x.back());
                }
                DUE.same("as it was in run " + run, stand(behind(start, moves.subList(0, left))), stand(x));
            }
        }
    }

    private static List<Integer> randomMoves(String start, Random random) {
        ChessRules x = Due.from(start);
        List<Integer> moves = new ArrayList<>();
        while (moves.size() < 100 && x.result() == 0) {
            int move = x.move(random.nextInt(x.moves()));
            moves.add(move);
            x.play(move);
        }
        return moves;
    }

    private static ChessRules behind(String start, List<Integer> moves) {
        ChessRules x = Due.from(start);
        for (int move : moves) {
            x.play(move);
        }
        return x;
    }

    private static String stand(ChessRules x) {
        return Due.written(x) + " " + x.occurrence() + " " + x.moves();
    }

    private static void promise14() {
        ChessRules x = new ChessRules();
        Due.play(x, "e2e4 d7d5 e4d5");
        DUE.same("played(0)", Due.move("e2e4"), x.played(0));
        DUE.same("played(1)", Due.move("d7d5"), x.played(1));
        DUE.same("played(2)", Due.move("e4d5"), x.played(2));
        for (int i : new int[] {-1, 3, 400, Integer.MIN_VALUE, Integer.MAX_VALUE}) {
            DUE.thrown("played(" + i + ")", IndexOutOfBoundsException.class, () -> x.played(i));
        }
        x.back();
        DUE.thrown("played(2) when it is taken back", IndexOutOfBoundsException.class, () -> x.played(2));
        Due.play(x, "b1c3");
        DUE.same("played(2) anew", Due.move("b1c3"), x.played(2));
        ChessRules p = Due.from("7k/P7/8/8/8/8/8/K7 w - - 0 1");
        Due.play(p, "a7a8r");
        DUE.same("played(0) of a pawn that became a rook", 48 + 64 * 56 + 4096 * 4, p.played(0));
    }
}
