/** Promises 7 to 9: man, about, attackers. */
public final class PositionTest {
    private static final Due DUE = new Due();

    public static void main(String[] args) {
        promise7();
        promise8();
        promise8Rights();
        promise8Passed();
        promise8ClockAndNumber();
        promise8Check();
        promise9();
        promise9Edges();
        DUE.end();
    }

    private static void promise7() {
        ChessRules x = new ChessRules();
        int[] rank = {4, 2, 3, 5, 6, 3, 2, 4};
        for (int file = 0; file < 8; file++) {
            DUE.same("man on rank 0", rank[file], x.man(file));
            DUE.same("man on rank 1", 1, x.man(8 + file));
            for (int square = 16 + file; square < 48; square += 8) {
                DUE.same("man(" + square + ")", 0, x.man(square));
            }
            DUE.same("man on rank 6", 9, x.man(48 + file));
            DUE.same("man on rank 7", 8 + rank[file], x.man(56 + file));
        }
        for (int square : new int[] {-1, 64, 100, Integer.MIN_VALUE, Integer.MAX_VALUE}) {
            DUE.thrown("man(" + square + ")", IndexOutOfBoundsException.class, () -> x.man(square));
        }
        x.play(Due.move("e2e4"));
        DUE.same("man on e2 behind e4", 0, x.man(12));
        DUE.same("man on e4 behind e4", 1, x.man(28));
    }

    private static void about(ChessRules x, String told, int... want) {
        for (int what = 0; what < want.length; what++) {
            DUE.same("about(" + what + ") " + told, want[what], x.about(what));
        }
    }

    private static void promise8() {
        ChessRules x = new ChessRules();
        about(x, "at first", 0, 15, -1, 0, 1, 0);
        for (int what : new int[] {-1, 6, 64, Integer.MIN_VALUE, Integer.MAX_VALUE}) {
            DUE.thrown("about(" + what + ")", IndexOutOfBoundsException.class, () -> x.about(what));
        }
        about(Due.from("4k3/8/8/3pP3/8/8/8/4K2R w K d6 123 456"), "of a text", 0, 1, 43, 123, 456, 0);
        about(Due.from("r3k3/8/8/8/3pP3/8/8/4K3 b q e3 0 999"), "of another text", 1, 8, 20, 0, 999, 0);
    }

    private static void rightsBehind(int want, String moves) {
        ChessRules x = Due.from("r3k2r/1P4P1/8/8/8/8/1p4p1/R3K2R w KQkq - 0 1");
        Due.play(x, moves);
        DUE.same("rights behind " + moves, want, x.about(1));
        for (String name : moves.split(" ")) {
            x.back();
        }
        DUE.same("rights when " + moves + " is taken back", 15, x.about(1));
    }

    private static void promise8Rights() {
        rightsBehind(12, "e1d2");
        rightsBehind(12, "e1d2 b2b1n d2e1");
        rightsBehind(14, "h1h2");
        rightsBehind(13, "a1a2");
        rightsBehind(3, "g7g8n e8d7");
        rightsBehind(10, "h1h8");
        rightsBehind(5, "a1a8");
        rightsBehind(7, "b7a8q");
        rightsBehind(11, "g7h8n");
        rightsBehind(13, "g7g8n b2a1q");
        rightsBehind(14, "g7g8n g2h1r");
        rightsBehind(7, "g7g8n a8b8");
        rightsBehind(11, "g7g8n h8h7");
        ChessRules castles = Due.from("r3k2r/8/8/8/8/8/8/R3K2R w KQkq - 0 1");
        Due.play(castles, "e1g1");
        DUE.same("rights behind white castling", 12, castles.about(1));
        Due.play(castles, "e8c8");
        DUE.same("rights behind black castling", 0, castles.about(1));
        ChessRules other = Due.from("r3k2r/8/8/8/8/R6R/8/R3K2R w KQkq - 0 1");
        Due.play(other, "a3a4");
        DUE.same("rights when another rook moves", 15, other.about(1));
    }

    private static void passedBehind(int want, String text, String move) {
        ChessRules x = Due.from(text);
        Due.play(x, move);
        DUE.same("passed square behind " + move + " of " + text, want, x.about(2));
        x.back();
        DUE.same("passed square when it is taken back", -1, x.about(2));
    }

    private static void promise8Passed() {
        passedBehind(-1, "4k3/8/8/8/8/8/4P3/4K3 w - - 0 1", "e2e4");
        passedBehind(20, "4k3/8/8/8/3p4/8/4P3/4K3 w - - 0 1", "e2e4");
        passedBehind(20, "4k3/8/8/8/5p2/8/4P3/4K3 w - - 0 1", "e2e4");
        passedBehind(-1, "4k3/8/8/8/3p4/8/4P3/4K3 w - - 0 1", "e2e3");
        passedBehind(-1, "4k3/8/8/8/3n4/8/4P3/4K3 w - - 0 1", "e2e4");
        passedBehind(-1, "4k3/8/8/8/3P4/8/4P3/4K3 w - - 0 1", "e2e4");
        passedBehind(-1, "4k3/8/8/8/2p5/8/4P3/4K3 w - - 0 1", "e2e4");
        passedBehind(-1, "4k3/8/8/7p/8/8/P7/4K3 w - - 0 1", "a2a4");
        passedBehind(-1, "4k3/8/8/8/p7/8/7P/4K3 w - - 0 1", "h2h4");
        passedBehind(43, "4k3/3p4/8/4P3/8/8/8/4K3 b - - 0 1", "d7d5");
        passedBehind(-1, "4k3/3p4/8/8/4P3/8/8/4K3 b - - 0 1", "d7d5");
        // The pawn that attacks may be held by its king all the same.
        passedBehind(20, "8/8/8/8/k2p3R/8/4P3/4K3 w - - 0 1", "e2e4");
        ChessRules x = Due.from("4k3/8/8/8/3p4/8/4P3/4K3 w - - 0 1");
        Due.play(x, "e2e4 e8e7");
        DUE.same("passed square one move later", -1, x.about(2));
        x.back();
        DUE.same("passed square again", 20, x.about(2));
    }

    private static void promise8ClockAndNumber() {
        ChessRules x = new ChessRules();
        int[][] due = {{0, 1}, {1, 1}, {2, 2}, {0, 2}, {0, 3}, {1, 3}, {2, 4}};
        String[] moves = {"g1f3", "b8c6", "e2e4", "d7d5", "f1e2", "g8f6"};
        for (int i = 0; i <= moves.length; i++) {
            DUE.same("clock behind move " + i, due[i][0], x.about(3));
            DUE.same("number behind move " + i, due[i][1], x.about(4));
            DUE.same("side behind move " + i, i % 2, x.about(0));
            if (i < moves.length) {
                Due.play(x, moves[i]);
            }
        }
        ChessRules takes = Due.from("4k3/8/8/8/8/8/4r3/R3K3 w Q - 44 7");
        Due.play(takes, "e1e2");
        DUE.same("clock behind taking", 0, takes.about(3));
        takes.back();
        DUE.same("clock when it is taken back", 44, takes.about(3));
        ChessRules castles = Due.from("4k3/8/8/8/8/8/8/R3K3 w Q - 44 7");
        Due.play(castles, "e1c1");
        DUE.same("clock behind castling", 45, castles.about(3));
    }

    private static void promise8Check() {
        DUE.same("in check", 1, Due.from("4k3/8/8/8/8/8/4r3/4K3 w - - 0 1").about(5));
        DUE.same("shielded", 0, Due.from("4k3/8/8/8/4r3/8/4P3/4K3 w - - 0 1").about(5));
        DUE.same("check by a knight", 1, Due.from("4k3/8/3N4/8/8/8/8/4K3 b - - 0 1").about(5));
        DUE.same("check by a pawn", 1, Due.from("4k3/3P4/8/8/8/8/8/4K3 b - - 0 1").about(5));
        DUE.same("a pawn in front", 0, Due.from("4k3/4P3/8/8/8/8/8/4K3 b - - 0 1").about(5));
        // The rook must not leave its king's file and gives check all the same.
        DUE.same("check by a held man", 1, Due.from("4k3/4r1K1/8/8/8/8/8/4R3 w - - 0 1").about(5));
    }

    private static long set(String squares) {
        long set = 0;
        for (String name : squares.split(" ")) {
            set |= name.isEmpty() ? 0 : 1L << Due.square(name);
        }
        return set;
    }

    private static void attackers(ChessRules x, String square, int side, String want) {
        DUE.same("attackers(" + square + ", " + side + ")", set(want), x.attackers(Due.square(square), side));
    }

    private static void promise9() {
        ChessRules first = new ChessRules();
        attackers(first, "f3", 0, "e2 g2 g1");
        attackers(first, "f3", 1, "");
        attackers(first, "e1", 0, "d1");
        attackers(first, "d1", 0, "e1");
        attackers(first, "d2", 0, "b1 c1 d1 e1");
        attackers(first, "e7", 1, "d8 e8 f8 g8");
        attackers(first, "e3", 0, "d2 f2");
        attackers(first, "e4", 0, "");
        ChessRules x = Due.from("3r3k/1b6/8/R2qp2R/2P1P3/2N1N3/8/B2Q3K b - - 0 1");
        attackers(x, "d5", 0, "a5 c4 e4 c3 e3 d1");
        attackers(x, "d5", 1, "b7 d8");
        attackers(x, "e5", 0, "h5");
        attackers(x, "e5", 1, "d5");
        attackers(x, "h8", 0, "h5");
        attackers(x, "h1", 0, "d1 h5");
        attackers(x, "d4", 0, "d1");
        attackers(x, "d4", 1, "d5 e5");
        // A held man attacks too, and a king does not mind whether it may go.
        ChessRules held = Due.from("4k3/4r3/8/8/8/8/4N3/4K3 w - - 0 1");
        attackers(held, "d4", 0, "e2");
        attackers(held, "e2", 0, "e1");
        attackers(held, "d7", 1, "e7 e8");
    }

    private static void promise9Edges() {
        ChessRules x = Due.from("7k/8/8/8/8/8/8/K7 w - - 0 1");
        attackers(x, "a2", 0, "a1");
        attackers(x, "h1", 0, "");
        attackers(x, "h2", 0, "");
        attackers(x, "a8", 1, "");
        attackers(x, "a1", 0, "");
        ChessRules knights = Due.from("N6k/8/8/8/8/8/8/K6N w - - 0 1");
        attackers(knights, "f2", 0, "h1");
        attackers(knights, "g3", 0, "h1");
        attackers(knights, "a3", 0, "");
        attackers(knights, "b3", 0, "");
        attackers(knights, "h6", 0, "");
        attackers(knights, "c7", 0, "a8");
        ChessRules pawns = Due.from("7k/8/8/p6P/P6p/8/8/K7 w - - 0 1");
        attackers(pawns, "h6", 0, "");
        attackers(pawns, "g6", 0, "h5");
        attackers(pawns, "a6", 0, "");
        attackers(pawns, "b5", 0, "a4");
        attackers(pawns, "h3", 1, "");
        attackers(pawns, "g3", 1, "h4");
        attackers(pawns, "b4", 1, "a5");
        ChessRules corners = Due.from("Q6R/8/8/8/8/7k/8/B1K4B b - - 0 1");
        attackers(corners, "a1", 0, "a8");
        attackers(corners, "h8", 0, "a1 a8");
        attackers(corners, "a8", 0, "h1 h8");
        attackers(corners, "h1", 0, "a8");
        for (int square : new int[] {-1, 64, Integer.MIN_VALUE, Integer.MAX_VALUE}) {
            DUE.thrown("attackers(" + square + ", 0)", IndexOutOfBoundsException.class, () -> x.attackers(square, 0));
        }
        for (int side : new int[] {-1, 2, Integer.MIN_VALUE, Integer.MAX_VALUE}) {
            DUE.thrown("attackers(0, " + side + ")", IndexOutOfBoundsException.class, () -> x.attackers(0, side));
        }
    }
}
