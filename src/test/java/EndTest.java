/** Promises 15 to 17: occurrence, result, claims. */
public final class EndTest {
    private static final String KNIGHTS = "g1f3 g8f6 f3g1 f6g8";
    private static final String ROOKS = "a1b1 a8b8 b1a1 b8a8";
    private static final Due DUE = new Due();

    public static void main(String[] args) {
        promise15();
        promise15Men();
        promise15Rights();
        promise15Passed();
        promise16MateAndStalemate();
        promise16TooLittle();
        promise16Fifth();
        promise16Clock();
        promise16FirstThatFits();
        promise17();
        promise17Over();
        DUE.end();
    }

    private static void promise15() {
        ChessRules x = new ChessRules();
        DUE.same("at first", 1, x.occurrence());
        for (int times = 2; times <= 5; times++) {
            Due.play(x, "g1f3");
            DUE.same("with the knight out", times - 1, x.occurrence());
            Due.play(x, "g8f6 f3g1 f6g8");
            DUE.same("time " + times, times, x.occurrence());
        }
        x.back();
        DUE.same("one back", 4, x.occurrence());
        x.back();
        x.back();
        x.back();
        DUE.same("four back", 4, x.occurrence());
        Due.load(x, "rnbqkbnr/pppppppp/8/8/8/8/PPPPPPPP/RNBQKBNR w KQkq - 0 1");
        DUE.same("a new game", 1, x.occurrence());
        ChessRules moved = new ChessRules();
        Due.play(moved, "e2e4 e7e5 " + KNIGHTS);
        DUE.same("clock and number don't count", 2, moved.occurrence());
        // The same men with the other side to move: white takes three moves for two, black two.
        ChessRules side = Due.from("4k3/8/8/8/8/8/8/R3K3 w - - 0 1");
        Due.play(side, "a1b1 e8e7 b1c1 e7e8 c1a1");
        DUE.same("the other side is to move", 1, side.occurrence());
    }

    private static void otherMen(String told, String text, String moves) {
        ChessRules x = Due.from(text);
        Due.play(x, moves);
        DUE.same(told, 1, x.occurrence());
    }

    private static void promise15Men() {
        otherMen("rook and queen changed places", "4k3/8/8/8/8/8/8/RQ2K3 w - - 0 1",
                "a1a2 e8e7 b1a1 e7e8 a2b2 e8e7 b2b1 e7e8");
        otherMen("knight and rook changed places", "4k3/8/8/8/8/8/8/RN2K3 w - - 0 1",
                "b1c3 e8e7 a1b1 e7e8 c3b5 e8e7 b5c3 e7e8 c3a2 e8e7 a2c1 e7e8 c1b3 e8e7 b3a1 e7e8");
        otherMen("white and black rook changed places", "4k3/8/8/8/R6r/8/8/4K3 w - - 0 1",
                "a4a5 h4h3 a5h5 h3a3 h5h4 a3a4");
        otherMen("a pawn is gone", "4k3/8/8/8/8/8/p7/R3K3 w - - 0 1", "a1a2 e8e7 a2a1 e7e8");
        otherMen("a white pawn is gone", "r3k3/P7/8/8/8/8/8/4K3 b - - 0 1", "a8a7 e1e2 a7a8 e2e1");
        otherMen("a knight is gone", "4k3/8/8/8/8/8/n7/R3K3 w - - 0 1", "a1a2 e8e7 a2a1 e7e8");
    }

    private static void promise15Rights() {
        ChessRules x = Due.from("r3k2r/8/8/8/8/8/8/R3K2R w KQkq - 0 1");
        Due.play(x, ROOKS);
        DUE.same("rights were lost", 1, x.occurrence());
        Due.play(x, ROOKS);
        DUE.same("the same rights", 2, x.occurrence());
    }

    private static void promise15Passed() {
        // A pawn may take: the position with the passed square is another one.
        ChessRules legal = Due.from("4k3/8/8/8/3p4/8/4P3/4K3 w - - 0 1");
        Due.play(legal, "e2e4 e8e7 e1e2 e7e8 e2e1");
        DUE.same("it might have been taken", 1, legal.occurrence());
        Due.play(legal, "e8e7 e1e2 e7e8 e2e1");
        DUE.same("without the passed square", 2, legal.occurrence());
        // The pawn is held by its king: the passed square makes no difference.
        ChessRules held = Due.from("8/8/8/8/k2p3R/8/4P3/4K3 w - - 0 1");
        Due.play(held, "e2e4");
        DUE.same("a passed square", 20, held.about(2));
        Due.play(held, "a4a5 e1e2 a5a4 e2e1");
        DUE.same("no passed square", -1, held.about(2));
        DUE.same("it could not have been taken", 2, held.occurrence());
        // One pawn is held, the other may take.
        ChessRules one = Due.from("7k/8/8/8/3pPp2/8/8/B3K3 b - e3 0 1");
        Due.play(one, "h8h7 e1e2 h7h8 e2e1");
        DUE.same("the side to move is black again", 1, one.about(0));
        DUE.same("one of two might have taken", 1, one.occurrence());
        // Told by a text.
        ChessRules told = Due.from("4k3/8/8/3pP3/8/8/8/4K3 w - d6 0 1");
        Due.play(told, "e1e2 e8e7 e2e1 e7e8");
        DUE.same("the told passed square counts", 1, told.occurrence());
        ChessRules toldHeld = Due.from("4r1k1/8/8/3pP3/8/8/8/4K3 w - d6 0 1");
        Due.play(toldHeld, "e1f1 g8f8 f1e1 f8g8");
        DUE.same("a told one that is held doesn't", 2, toldHeld.occurrence());
    }

    private static void result(int want, String text) {
        DUE.same("result() of " + text, want, Due.from(text).result());
    }

    private static void promise16MateAndStalemate() {
        result(0, "rnbqkbnr/pppppppp/8/8/8/8/PPPPPPPP/RNBQKBNR w KQkq - 0 1");
        result(1, "R5k1/5ppp/8/8/8/8/8/6K1 b - - 0 1");
        result(0, "R5k1/5p1p/8/8/8/8/8/6K1 b - - 0 1");
        result(1, "6rk/5Npp/8/8/8/8/8/6K1 b - - 0 1");
        result(2, "7k/5Q2/8/8/8/8/8/6K1 b - - 0 1");
        result(0, "7k/5Q2/8/8/8/8/p7/6K1 b - - 0 1");
        result(2, "8/8/8/8/8/4k3/4p3/4K3 w - - 0 1");
        // To take the passing pawn is the only move.
        result(0, "k1b3r1/8/8/6pP/7K/r7/8/8 w - g6 0 1");
        result(1, "k1b3r1/8/8/6pP/7K/r7/8/8 w - - 0 1");
        ChessRules fool = new ChessRules();
        Due.play(fool, "f2f3 e7e5 g2g4 d8h4");
        DUE.same("result() of the fool's mate", 1, fool.result());
    }

    private static void promise16TooLittle() {
        result(3, "4k3/8/8/8/8/8/8/4K3 w - - 0 1");
        result(3, "4k3/8/8/8/8/8/8/4KN2 w - - 0 1");
        result(3, "4kn2/8/8/8/8/8/8/4K3 w - - 0 1");
        result(3, "4k3/8/8/8/8/8/8/4KB2 b - - 0 1");
        result(3, "2b1k3/8/8/8/8/8/8/4KB2 b - - 0 1");
        result(3, "2b1k3/3b4/2b5/8/8/8/8/4KB1B w - - 0 1");
        result(3, "4kb2/8/8/8/8/8/8/B1B1K3 b - - 0 1");
        result(0, "4kb2/8/8/8/8/8/8/4KB2 b - - 0 1");
        result(0, "4k3/8/8/8/8/8/8/2B1KB2 b - - 0 1");
        result(0, "4k3/8/8/8/8/8/8/4KNN1 w - - 0 1");
        result(0, "4kn2/8/8/8/8/8/8/4KN2 w - - 0 1");
        result(0, "4k3/8/8/8/8/8/8/4KNB1 w - - 0 1");
        result(0, "4kb2/8/8/8/8/8/8/4KN2 w - - 0 1");
        result(0, "4k3/8/8/8/8/8/P7/4K3 w - - 0 1");
        result(0, "4k3/8/8/8/8/8/p7/4K3 w - - 0 1");
        result(0, "4k3/8/8/8/8/8/8/R3K3 w - - 0 1");
        result(0, "4k3/8/8/8/8/8/8/Q3K3 w - - 0 1");
        ChessRules x = Due.from("4k3/8/8/8/8/8/4p3/4K3 w - - 0 1");
        Due.play(x, "e1e2");
        DUE.same("the last pawn is taken", 3, x.result());
    }

    private static void promise16Fifth() {
        ChessRules x = new ChessRules();
        for (int times = 1; times < 5; times++) {
            DUE.same("result() at time " + times, 0, x.result());
            Due.play(x, KNIGHTS);
        }
        DUE.same("result() at the fifth time", 4, x.result());
        DUE.same("there are moves still", 20, x.moves());
        x.back();
        DUE.same("result() one back", 0, x.result());
    }

    private static void promise16Clock() {
        result(0, "4k3/8/8/8/8/8/8/R3K3 w - - 149 1");
        result(5, "4k3/8/8/8/8/8/8/R3K3 w - - 150 1");
        result(5, "4k3/8/8/8/8/8/8/R3K3 w - - 999 1");
        ChessRules x = Due.from("4k3/8/8/8/8/8/P7/R3K3 w - - 149 1");
        Due.play(x, "a2a3");
        DUE.same("a pawn sets the clock to 0", 0, x.result());
        x.back();
        Due.play(x, "a1b1");
        DUE.same("the clock runs out", 5, x.result());
    }

    private static void promise16FirstThatFits() {
        result(1, "R5k1/5ppp/8/8/8/8/8/6K1 b - - 150 1");
        result(2, "7k/5Q2/8/8/8/8/8/6K1 b - - 150 1");
        result(3, "4k3/8/8/8/8/8/8/4K3 w - - 150 1");
        result(2, "k7/8/1K1B4/8/8/8/8/8 b - - 0 1");
        ChessRules x = Due.from("r3k3/8/8/8/8/8/8/R3K3 w - - 134 1");
        for (int i = 0; i < 4; i++) {
            Due.play(x, ROOKS);
        }
        DUE.same("the clock", 150, x.about(3));
        DUE.same("fifth time and clock", 4, x.result());
        // Mate counts before the fifth time can: a side that is mated was never there before.
        ChessRules mate = Due.from("6k1/5ppp/8/8/8/8/8/R5K1 w - - 149 1");
        Due.play(mate, "a1a8");
        DUE.same("mate as the clock runs out", 1, mate.result());
    }

    private static void promise17() {
        ChessRules x = new ChessRules();
        DUE.same("claims() at first", 0, x.claims());
        Due.play(x, KNIGHTS);
        DUE.same("claims() at the second time", 0, x.claims());
        Due.play(x, KNIGHTS);
        DUE.same("claims() at the third time", 1, x.claims());
        DUE.same("a claim does not end it", 0, x.result());
        Due.play(x, KNIGHTS);
        DUE.same("claims() at the fourth time", 1, x.claims());
        Due.play(x, "e2e4");
        DUE.same("claims() of another position", 0, x.claims());
        DUE.same("clock 99", 0, Due.from("4k3/8/8/8/8/8/8/R3K3 w - - 99 1").claims());
        DUE.same("clock 100", 2, Due.from("4k3/8/8/8/8/8/8/R3K3 w - - 100 1").claims());
        DUE.same("clock 149", 2, Due.from("4k3/8/8/8/8/8/8/R3K3 w - - 149 1").claims());
        ChessRules both = Due.from("r3k3/8/8/8/8/8/8/R3K3 w - - 92 1");
        Due.play(both, ROOKS + " a1b1 a8b8 b1a1");
        DUE.same("not yet", 0, both.claims());
        Due.play(both, "b8a8");
        DUE.same("both", 3, both.claims());
    }

    private static void promise17Over() {
        DUE.same("mated", 0, Due.from("R5k1/5ppp/8/8/8/8/8/6K1 b - - 120 1").claims());
        DUE.same("stalemate", 0, Due.from("7k/5Q2/8/8/8/8/8/6K1 b - - 120 1").claims());
        DUE.same("too little", 0, Due.from("4k3/8/8/8/8/8/8/4K3 w - - 120 1").claims());
        DUE.same("clock 150", 0, Due.from("4k3/8/8/8/8/8/8/R3K3 w - - 150 1").claims());
        ChessRules x = new ChessRules();
        for (int i = 0; i < 4; i++) {
            Due.play(x, KNIGHTS);
        }
        DUE.same("the fifth time", 0, x.claims());
    }
}
