import java.util.HashSet;
import java.util.Set;

/** The sentences of promises 12 to 14, play, back and played, and of the terms that tell what is behind a move. */
final class PlaySentences {
    private static final String PLAY = "Promise 12: play";
    private static final String BACK = "Promise 13: back";
    private static final String PLAYED = "Promise 14: played";
    private static final int[] FAR = {Integer.MIN_VALUE, Integer.MIN_VALUE + 1, -401, -400, -2, -1, 400, 401, 512, 65536,
        Integer.MAX_VALUE - 1, Integer.MAX_VALUE};

    private PlaySentences() {
    }

    static void tell(Sentences s) {
        s.holds(PLAY, "A move is played: how many were played in the game.", PlaySentences::howManyWerePlayed);
        s.holds(PLAY, "IllegalArgumentException when it is not legal", PlaySentences::notLegal);
        s.holds(PLAY, "IllegalStateException when the game is over by itself (result 3 .. 5", PlaySentences::overByItself);
        s.holds(PLAY, "behind mate and stalemate no move is legal)", PlaySentences::behindMateAndStalemate);
        s.holds(PLAY, "UnsupportedOperationException when 400 were played.", PlaySentences::fourHundred);
        s.term(PLAY, "Behind a move: a right is lost when its king or its rook moves from its first square", PlaySentences::rightsOfMovers);
        s.term(PLAY, "or that rook is taken there.", PlaySentences::rightsOfTaken);
        s.term(PLAY, "The passed square is the one that a pawn passed with two steps", PlaySentences::passedSquare);
        s.term(PLAY, "if a pawn of the other side attacks it (whatever comes of its king)", PlaySentences::passedIfAttacked);
        s.term(PLAY, "otherwise none.", PlaySentences::noPassedSquare);
        s.term(PLAY, "where several exceptions that a call names fit, it is the one that it names first.", PlaySentences::firstException);
        s.holds(BACK, "The latest move is taken back", PlaySentences::latestIsTakenBack);
        s.holds(BACK, "(also when the game is over)", PlaySentences::backWhenOver);
        s.holds(BACK, "how many are left.", PlaySentences::howManyAreLeft);
        s.holds(BACK, "IllegalStateException when none was played.", PlaySentences::noneWasPlayed);
        s.holds(PLAYED, "Move i of the game, as it is told.", PlaySentences::playedAsTold);
        s.holds(PLAYED, "IndexOutOfBoundsException when there is none.", PlaySentences::noSuchPlayed);
        s.term(PLAYED, "A GAME is a position from which it began, and moves one behind the other.", PlaySentences::game);
        s.term(PLAYED, "A call that throws changes nothing", PlaySentences::throwsChangeNothing);
    }

    private static void howManyWerePlayed(Due due) {
        ChessRules x = new ChessRules();
        String[] moves = "e2e4 e7e5 g1f3 b8c6 f1c4 f8c5 e1g1 g8f6 d2d4 e5d4".split(" ");
        for (int i = 0; i < moves.length; i++) {
            due.same("play " + moves[i], i + 1, x.play(Due.move(moves[i])));
        }
        due.same("the position", "r1bqk2r/pppp1ppp/2n2n2/2b5/2BpP3/5N2/PPP2PPP/RNBQ1RK1 w kq - 0 6", Due.written(x));
        x.back();
        x.back();
        due.same("play when two are taken back", 9, x.play(Due.move("c2c3")));
        Due.load(x, Texts.CASTLES);
        due.same("play in a new game", 1, x.play(Due.move("e1c1")));
        due.same("play in a new game", 2, x.play(Due.move("e8g8")));
    }

    /** Each number up to 8 * 4096: it is refused unless it is one of the legal moves. */
    private static void notLegal(Due due) {
        String[] texts = {Texts.FIRST, Texts.CASTLES, "n1n5/PPPk4/8/8/8/8/4Kppp/5N1N b - - 0 1", "4k3/8/8/2PpP3/8/8/8/4K2R w K d6 0 1"};
        for (String text : texts) {
            Set<Integer> legal = new HashSet<>();
            ChessRules x = Due.from(text);
            int count = x.moves();
            for (int k = 0; k < count; k++) {
                legal.add(x.move(k));
            }
            due.same("so many different moves", count, legal.size());
            for (int move = 0; move < 8 * 4096; move++) {
                x = move % 200 == 0 ? Due.from(text) : x;
                askMove(due, x, move, legal.contains(move));
            }
            due.same("nothing changed", text, Due.written(Due.from(text)));
        }
        farMoves(due);
    }

    private static void askMove(Due due, ChessRules x, int move, boolean isLegal) {
        due.same("play(" + move + ")", isLegal ? "1" : "throws.IllegalArgumentException", Due.answerOf(() -> x.play(move)));
        if (isLegal) {
            x.back();
        }
    }

    /** Numbers that would be legal moves if some of their bits were left out. */
    private static void farMoves(Due due) {
        ChessRules x = new ChessRules();
        int e4 = Due.move("e2e4");
        for (int bit = 12; bit < 32; bit++) {
            int move = e4 | 1 << bit;
            due.illegal("e2e4 with bit " + bit, () -> x.play(move));
        }
        for (int move : new int[] {-1, -e4, ~e4, e4 - 4096, e4 - 8 * 4096, e4 - 65536, Integer.MIN_VALUE, Integer.MAX_VALUE, 0, 64, 4096}) {
            due.illegal("play(" + move + ")", () -> x.play(move));
        }
        due.same("e2e4 itself", 1, x.play(e4));
        due.illegal("e2e4 again", () -> x.play(e4));
        ChessRules pawn = Due.from("7k/P7/8/8/8/8/8/K7 w - - 0 1");
        int queen = Due.move("a7a8q");
        for (int bit = 15; bit < 32; bit++) {
            int move = queen | 1 << bit;
            due.illegal("a7a8q with bit " + bit, () -> pawn.play(move));
        }
        due.same("a7a8q itself", 1, pawn.play(queen));
    }

    private static void refused(Due due, ChessRules x, String name, Class<? extends RuntimeException> why) {
        String before = Due.picture(x);
        due.thrown("play of " + name, why, () -> x.play(Due.move(name)));
        due.same("nothing changed by the play of " + name, before, Due.picture(x));
    }

    private static void overByItself(Due due) {
        Class<IllegalStateException> over = IllegalStateException.class;
        for (String men : new String[] {"Kd2 kd5", "Kd2 kd5 Nh1", "Kd2 kd5 ba8 Bb1"}) {
            ChessRules little = Due.from(Texts.of(men, "w - - 0 1"));
            due.same("too little", 3, little.result());
            refused(due, little, "d2d3", over);
        }
        ChessRules fifth = Games.fifthTime();
        due.same("the fifth time", 4, fifth.result());
        refused(due, fifth, "e2e4", over);
        ChessRules late = Due.from("8/8/8/3k4/8/8/P2K4/8 w - - 150 200");
        due.same("the clock is 150", 5, late.result());
        refused(due, late, "a2a3", over);
        refused(due, Due.from("8/8/8/3k4/8/8/P2K4/8 w - - 999 200"), "a2a3", over);
        // One before each of them it goes on.
        due.same("the clock is 149", 1, Due.from("8/8/8/3k4/8/8/P2K4/8 w - - 149 200").play(Due.move("d2d3")));
        ChessRules fourth = new ChessRules();
        Games.repeat(fourth, Games.KNIGHTS_TO_AND_FRO, 3);
        due.same("the fourth time", 13, fourth.play(Due.move("e2e4")));
        due.same("two knights", 1, Due.from(Texts.of("Kd2 kd5 Nh1 na8", "w - - 0 1")).play(Due.move("d2d3")));
        // What may be claimed does not hinder.
        due.same("the clock is 100", 1, Due.from("8/8/8/3k4/8/8/P2K4/8 w - - 100 200").play(Due.move("d2d3")));
        ChessRules third = new ChessRules();
        Games.repeat(third, Games.KNIGHTS_TO_AND_FRO, 2);
        due.same("the third time", 9, third.play(Due.move("g1f3")));
    }

    private static void behindMateAndStalemate(Due due) {
        for (String rest : new String[] {"b - - 0 1", "b - - 150 1", "b - - 999 1"}) {
            ChessRules mated = Due.from("R5k1/5ppp/8/8/8/8/8/6K1 " + rest);
            refused(due, mated, "g8h8", IllegalArgumentException.class);
            refused(due, mated, "h7h6", IllegalArgumentException.class);
            ChessRules stale = Due.from("7k/5Q2/8/8/8/8/8/6K1 " + rest);
            refused(due, stale, "h8g8", IllegalArgumentException.class);
            refused(due, stale, "h8h7", IllegalArgumentException.class);
        }
        // Stalemate though there is too little.
        refused(due, Due.from("k7/8/1K1B4/8/8/8/8/8 b - - 0 1"), "a8b8", IllegalArgumentException.class);
        ChessRules fool = new ChessRules();
        Due.play(fool, "f2f3 e7e5 g2g4 d8h4");
        due.same("no move behind mate", 0, fool.moves());
        for (int move = 0; move < 300; move++) {
            int told = move % 64 + 64 * (move * 37 % 64);
            due.illegal("play(" + told + ") behind mate", () -> fool.play(told));
        }
    }

    private static void fourHundred(Due due) {
        ChessRules x = Games.full();
        due.same("it goes on", 0, x.result());
        int legal = x.move(0);
        int last = Due.move(Games.rooks(400, 100, 249, 330)[399]);
        due.same("the last of 400", last, x.played(399));
        due.unsupported("play of one more than 400", () -> x.play(legal));
        due.same("the game stays", last, x.played(399));
        due.outOfBounds("played(400)", () -> x.played(400));
        due.same("the clock stays", 69, x.about(3));
        due.unsupported("play of one more, again", () -> x.play(legal));
        due.same("back()", 399, x.back());
        due.same("play of the 400th", 400, x.play(last));
        due.unsupported("play of one more than 400 again", () -> x.play(legal));
        due.same("load()", 0, Due.load(x, Texts.FIRST));
        due.same("play in a new game", 1, x.play(Due.move("e2e4")));
        ChessRules y = Games.afterRooks(399, 100, 249, 330);
        due.same("play of the 400th", 400, y.play(last));
    }

    private static void rightsOfMovers(Due due) {
        String before = "r3k2r/p6p/8/8/8/8/P6P/R3K2R w KQkq - 7 3";
        Turned.behind(due, before, "e1e2", "r3k2r/p6p/8/8/8/8/P3K2P/R6R b kq - 8 3");
        Turned.behind(due, before, "e1d1", "r3k2r/p6p/8/8/8/8/P6P/R2K3R b kq - 8 3");
        Turned.behind(due, before, "e1f2", "r3k2r/p6p/8/8/8/8/P4K1P/R6R b kq - 8 3");
        Turned.behind(due, before, "e1g1", "r3k2r/p6p/8/8/8/8/P6P/R4RK1 b kq - 8 3");
        Turned.behind(due, before, "e1c1", "r3k2r/p6p/8/8/8/8/P6P/2KR3R b kq - 8 3");
        Turned.behind(due, before, "h1g1", "r3k2r/p6p/8/8/8/8/P6P/R3K1R1 b Qkq - 8 3");
        Turned.behind(due, before, "a1b1", "r3k2r/p6p/8/8/8/8/P6P/1R2K2R b Kkq - 8 3");
        // They do not come again when the man comes home.
        Turned.behind(due, before, "e1e2 h7h6 e2e1", "r3k2r/p7/7p/8/8/8/P6P/R3K2R b kq - 1 4");
        Turned.behind(due, before, "h1g1 h7h6 g1h1", "r3k2r/p7/7p/8/8/8/P6P/R3K2R b Qkq - 1 4");
        Turned.behind(due, before, "a1b1 h7h6 b1a1", "r3k2r/p7/7p/8/8/8/P6P/R3K2R b Kkq - 1 4");
        // Both sides, one right behind the other.
        Turned.behind(due, before, "h1g1 a8b8 a1b1 h8g8", "1r2k1r1/p6p/8/8/8/8/P6P/1R2K1R1 w - - 11 5");
        // Other men, other rooks, and moves over these squares leave the rights alone.
        Turned.behind(due, before, "a2a3 h7h6", "r3k2r/p7/7p/8/8/P7/7P/R3K2R w KQkq - 0 4");
        Turned.behind(due, "r3k2r/8/8/8/8/R6R/8/R3K2R w KQkq - 7 3", "a3b3", "r3k2r/8/8/8/8/1R5R/8/R3K2R b KQkq - 8 3");
        Turned.behind(due, "r3k2r/8/8/8/8/R6R/8/R3K2R w KQkq - 7 3", "h3h7", "r3k2r/7R/8/8/8/R7/8/R3K2R b KQkq - 8 3");
        // A rook that comes to a first square brings no right.
        Turned.behind(due, "4k3/8/8/8/8/7R/8/R3K3 w Q - 7 3", "h3h1", "4k3/8/8/8/8/8/8/R3K2R b Q - 8 3");
    }

    private static void rightsOfTaken(Due due) {
        Turned.behind(due, Texts.CASTLES, "h1h8", "r3k2R/8/8/8/8/8/8/R3K3 b Qq - 0 1");
        Turned.behind(due, Texts.CASTLES, "a1a8", "R3k2r/8/8/8/8/8/8/4K2R b Kk - 0 1");
        Turned.behind(due, "r3k2r/1P6/8/8/8/8/8/R3K2R w KQkq - 7 3", "b7a8q", "Q3k2r/8/8/8/8/8/8/R3K2R b KQk - 0 3");
        Turned.behind(due, "r3k2r/6P1/8/8/8/8/8/R3K2R w KQkq - 7 3", "g7h8n", "r3k2N/8/8/8/8/8/8/R3K2R b KQq - 0 3");
        Turned.behind(due, "r3k2r/8/8/3B4/8/8/8/R3K2R w KQkq - 7 3", "d5a8", "B3k2r/8/8/8/8/8/8/R3K2R b KQk - 0 3");
        Turned.behind(due, "r3k2r/8/6N1/8/8/8/8/R3K2R w KQkq - 7 3", "g6h8", "r3k2N/8/8/8/8/8/8/R3K2R b KQq - 0 3");
        // Another rook that is taken elsewhere takes no right with it.
        Turned.behind(due, "r3k2r/8/r7/8/8/8/8/R3K2R w KQkq - 7 3", "a1a6", "r3k2r/8/R7/8/8/8/8/4K2R b Kkq - 0 3");
        Turned.behind(due, "r3k2r/3r4/8/1B6/8/8/8/R3K2R w KQkq - 7 3", "b5d7", "r3k2r/3B4/8/8/8/8/8/R3K2R b KQkq - 0 3");
        // The rook that takes brings no right of its own.
        Turned.behind(due, "r3k3/8/2N4r/8/8/8/8/4K2R b Kq - 7 3", "h6h1", "r3k3/8/2N5/8/8/8/8/4K2r w q - 0 4");
    }

    private static void passedBehind(Due due, String passed, String men, String move) {
        String text = Texts.of(men, "w - - 7 3");
        ChessRules x = Due.from(text);
        Due.play(x, move);
        due.same("the passed square behind " + move + " of " + text, passed, squareName(x.about(2)));
        due.same("it is told", passed, Due.written(x).split(" ")[3]);
        ChessRules y = Due.from(Texts.mirrored(text));
        Due.play(y, Texts.mirroredNames(move));
        due.same("the passed square with sides exchanged", Texts.mirroredNames(passed), squareName(y.about(2)));
        y.back();
        due.same("none when it is taken back", "-", squareName(y.about(2)));
    }

    private static String squareName(int square) {
        return square == ChessRules.NONE ? "-" : Due.name64(square);
    }

    private static void passedSquare(Due due) {
        for (char file = 'a'; file <= 'h'; file++) {
            char left = (char) (file - 1);
            char right = (char) (file + 1);
            String move = file + "2" + file + "4";
            if (file > 'a') {
                passedBehind(due, file + "3", "Kd1 kd8 P" + file + "2 p" + left + "4", move);
            }
            if (file < 'h') {
                passedBehind(due, file + "3", "Kd1 kd8 P" + file + "2 p" + right + "4", move);
            }
        }
        passedBehind(due, "e3", "Ka1 kh8 Pe2 pd4 pf4", "e2e4");
    }

    private static void passedIfAttacked(Due due) {
        passedBehind(due, "-", "Ka1 kh8 Pe2", "e2e4");
        passedBehind(due, "-", "Ka1 kh8 Pe2 pe5", "e2e4");
        passedBehind(due, "-", "Ka1 kh8 Pe2 pc4 pg4", "e2e4");
        passedBehind(due, "-", "Ka1 kh8 Pe2 pd5 pf5", "e2e4");
        passedBehind(due, "-", "Ka1 kh8 Pe2 pd3 pf3", "e2e4");
        passedBehind(due, "-", "Ka1 kh8 Pe2 pd2 pf2", "e2e4");
        passedBehind(due, "-", "Ka1 kh8 Pe2 Pd4 Pf4", "e2e4");
        passedBehind(due, "-", "Ka1 kh8 Pe2 nd4 bf4 re8 qh6", "e2e4");
        passedBehind(due, "-", "Ka1 kd4 Pe2", "e2e4");
        // Not over the board's edge.
        passedBehind(due, "-", "Kd1 kd8 Pa2 ph4 ph5 ph3", "a2a4");
        passedBehind(due, "-", "Kd1 kd8 Ph2 pa4 pa5 pa3", "h2h4");
        // The pawn that attacks it is held by its king, on the file, on the rank, on a diagonal.
        passedBehind(due, "e3", "Ka1 kd8 Rd1 Pe2 pd4", "e2e4");
        passedBehind(due, "e3", "Ke1 ka4 Rh4 Pe2 pd4", "e2e4");
        passedBehind(due, "e3", "Ke1 kb6 Bg1 Pe2 pd4", "e2e4");
        passedBehind(due, "e3", "Ka1 kh8 Bb2 Pe2 pd4", "e2e4");
        // Its king is in check by another man.
        passedBehind(due, "e3", "Kh1 kh5 Bd1 Pe2 pd4", "e2e4");
    }

    private static void noPassedSquare(Due due) {
        passedBehind(due, "-", "Ka1 kh8 Pe2 pd4", "e2e3");
        passedBehind(due, "-", "Ka1 kh8 Pe3 pd4", "e3e4");
        passedBehind(due, "-", "Ka1 kh8 Pe2 pd4 nf3", "e2f3");
        passedBehind(due, "-", "Ka1 kh8 Re2 pd4", "e2e4");
        passedBehind(due, "-", "Ka1 kh8 Qe2 pd4", "e2e4");
        passedBehind(due, "-", "Ka1 kh8 Pe2 pd4", "a1b1");
        // It lasts for one move.
        Turned.behind(due, Texts.of("Ka1 kh8 Pe2 pd4", "w - - 7 3"), "e2e4", Texts.of("Ka1 kh8 Pe4 pd4", "b - e3 0 3"));
        Turned.behind(due, Texts.of("Ka1 kh8 Pe2 pd4", "w - - 7 3"), "e2e4 h8h7", Texts.of("Ka1 kh7 Pe4 pd4", "w - - 1 4"));
        Turned.behind(due, Texts.of("Ka1 kh8 pd5 Pe5", "w - d6 7 3"), "a1a2", Texts.of("Ka2 kh8 pd5 Pe5", "b - - 8 3"));
        Turned.behind(due, Texts.of("Ka1 kh8 pd5 Pe5", "w - d6 7 3"), "e5d6", Texts.of("Ka1 kh8 Pd6", "b - - 0 3"));
        // Another one comes in its place.
        Turned.behind(due, Texts.of("Ka1 kh8 Pe2 pd4 Pc5 pb7", "w - - 7 3"), "e2e4 b7b5",
                Texts.of("Ka1 kh8 Pe4 pd4 Pc5 pb5", "w - b6 0 4"));
    }

    private static void firstException(Due due) {
        ChessRules little = Due.from(Texts.KINGS);
        due.illegal("not legal, and over", () -> little.play(Due.move("e1e3")));
        due.wrongState("legal, and over", () -> little.play(Due.move("e1e2")));
        ChessRules late = Due.from("8/8/8/3k4/8/8/P2K4/8 w - - 150 200");
        due.illegal("not legal, and over by the clock", () -> late.play(Due.move("a2a5")));
        ChessRules fifth = Games.fifthTime();
        due.illegal("not legal, and over by the fifth time", () -> fifth.play(Due.move("e2e5")));
        ChessRules full = Games.full();
        due.illegal("not legal, and 400 were played", () -> full.play(0));
        due.illegal("not legal, and 400 were played", () -> full.play(-1));
        for (ChessRules over : new ChessRules[] {Games.fullAndClockRanOut(), Games.fullAndFifthTime()}) {
            int legal = over.move(0);
            due.wrongState("legal, over, and 400 were played", () -> over.play(legal));
            due.illegal("not legal, over, and 400 were played", () -> over.play(-1));
            due.same("400 were played", 399, over.back());
        }
    }

    private static void latestIsTakenBack(Due due) {
        String[] texts = {Texts.FIRST, Texts.CASTLES, "n1n5/PPPk4/8/8/8/8/4Kppp/5N1N b - - 7 3", "4k3/8/8/2PpP3/8/8/8/4K2R w K d6 7 3",
            "r3k2r/1P4P1/8/8/8/8/1p4p1/R3K2R b KQkq - 99 999", "4k3/3p4/8/2P1P3/8/8/8/4K3 b - - 0 1"};
        for (String text : texts) {
            int count = Due.from(text).moves();
            for (int k = 0; k < count; k++) {
                ChessRules x = Due.from(text);
                String before = Due.picture(x);
                int move = x.move(k);
                x.play(move);
                due.same("back() of " + Due.name(move), 0, x.back());
                due.same("as it was before " + Due.name(move) + " of " + text, before, Due.picture(x));
            }
        }
        ChessRules two = new ChessRules();
        Due.play(two, "e2e4 e7e5");
        two.back();
        due.same("only the latest is taken back", "rnbqkbnr/pppppppp/8/8/4P3/8/PPPP1PPP/RNBQKBNR b KQkq - 0 1", Due.written(two));
        // OUT and the text stay.
        two.cut(0);
        Due.type(two, Texts.KINGS);
        two.back();
        due.same("OUT stays", 'P', two.out(23));
        due.textTells(Texts.KINGS, two);
    }

    private static void backWhenOver(Due due) {
        ChessRules fool = new ChessRules();
        Due.play(fool, "f2f3 e7e5 g2g4 d8h4");
        askBackFrom(due, 1, fool, 3);
        ChessRules stale = Due.from("7k/8/8/8/8/8/8/5QK1 w - - 0 1");
        Due.play(stale, "f1f7");
        askBackFrom(due, 2, stale, 0);
        ChessRules little = Due.from("4k3/8/8/8/8/8/4p3/4K3 w - - 0 1");
        Due.play(little, "e1e2");
        askBackFrom(due, 3, little, 0);
        askBackFrom(due, 4, Games.fifthTime(), 15);
        ChessRules late = Due.from("8/8/8/3k4/8/8/P2K4/R7 w - - 149 200");
        Due.play(late, "a1b1");
        askBackFrom(due, 5, late, 0);
        askBackFrom(due, 5, Games.fullAndClockRanOut(), 399);
        askBackFrom(due, 4, Games.fullAndFifthTime(), 399);
    }

    private static void askBackFrom(Due due, int result, ChessRules x, int left) {
        due.same("over", result, x.result());
        int latest = x.played(left);
        due.same("back() when the result is " + result, left, x.back());
        due.same("it goes on", 0, x.result());
        due.same("the same move again", left + 1, x.play(latest));
        due.same("over again", result, x.result());
    }

    private static void howManyAreLeft(Due due) {
        ChessRules x = Games.full();
        for (int left = 399; left > 350; left--) {
            due.same("back()", left, x.back());
        }
        ChessRules y = new ChessRules();
        Due.play(y, "e2e4 e7e5 g1f3");
        due.same("back()", 2, y.back());
        due.same("play()", 3, y.play(Due.move("f1c4")));
        due.same("back()", 2, y.back());
        due.same("back()", 1, y.back());
        due.same("back()", 0, y.back());
        due.same("at the beginning", Texts.FIRST, Due.written(y));
    }

    private static void noneWasPlayed(Due due) {
        ChessRules x = new ChessRules();
        due.wrongState("back() at first", () -> x.back());
        Due.play(x, "e2e4");
        x.back();
        due.wrongState("back() when all is taken back", () -> x.back());
        Due.play(x, "e2e4");
        Due.load(x, Texts.CASTLES);
        String before = Due.picture(x);
        due.wrongState("back() behind load()", () -> x.back());
        due.wrongState("back() behind load(), again", () -> x.back());
        due.same("nothing changed", before, Due.picture(x));
        due.same("it plays still", 1, x.play(Due.move("e1g1")));
        ChessRules over = Due.from(Texts.MATED);
        due.wrongState("back() of a mated side's first position", () -> over.back());
    }

    private static void playedAsTold(Due due) {
        ChessRules x = Due.from("1n2k3/P2p4/8/4P3/8/8/8/4K2R w K - 0 1");
        Due.play(x, "a7b8q e8e7 e1g1 d7d5 e5d6");
        int[] due5 = {48 + 64 * 57 + 4096 * 5, 60 + 64 * 52, 4 + 64 * 6, 51 + 64 * 35, 36 + 64 * 43};
        for (int i = 0; i < due5.length; i++) {
            due.same("played(" + i + ")", due5[i], x.played(i));
        }
        String[] moves = Games.rooks(400, 100, 249, 330);
        ChessRules full = Games.full();
        for (int i = 0; i < 400; i += i < 10 || i > 385 ? 1 : 7) {
            due.same("played(" + i + ")", Due.move(moves[i]), full.played(i));
        }
        for (String becomes : new String[] {"n", "b", "r", "q"}) {
            ChessRules pawn = Due.from("7k/8/8/8/8/8/p7/7K b - - 0 1");
            Due.play(pawn, "a2a1" + becomes);
            due.same("a pawn that became " + becomes, Due.move("a2a1" + becomes), pawn.played(0));
        }
    }

    private static void noSuchPlayed(Due due) {
        ChessRules x = new ChessRules();
        due.outOfBounds("played(0) at first", () -> x.played(0));
        Due.play(x, "e2e4 e7e5 g1f3");
        String before = Due.picture(x);
        due.outOfBounds("played(3) of three", () -> x.played(3));
        for (int i : FAR) {
            due.outOfBounds("played(" + i + ")", () -> x.played(i));
        }
        due.same("nothing changed", before, Due.picture(x));
        x.back();
        due.outOfBounds("played(2) when it is taken back", () -> x.played(2));
        due.same("played(1) is there", Due.move("e7e5"), x.played(1));
        Due.load(x, Texts.CASTLES);
        due.outOfBounds("played(0) behind load()", () -> x.played(0));
        ChessRules full = Games.full();
        for (int i : FAR) {
            due.outOfBounds("played(" + i + ") of 400", () -> full.played(i));
        }
        due.same("played(399) of 400 is there", Due.move(Games.rooks(400, 100, 249, 330)[399]), full.played(399));
    }

    private static void game(Due due) {
        ChessRules x = Due.from("r3k3/8/8/8/3pP3/8/8/4K2R b Kq e3 12 34");
        Due.play(x, "d4e3 e1g1 e8c8");
        due.same("behind three moves", "2kr4/8/8/8/8/4p3/8/5RK1 w - - 2 36", Due.written(x));
        due.same("the moves", Due.move("d4e3") + " " + Due.move("e1g1") + " " + Due.move("e8c8"),
                x.played(0) + " " + x.played(1) + " " + x.played(2));
        x.back();
        x.back();
        x.back();
        due.same("the position from which it began", "r3k3/8/8/8/3pP3/8/8/4K2R b Kq e3 12 34", Due.written(x));
        due.wrongState("back() from there", () -> x.back());
    }

    private static void throwsChangeNothing(Due due) {
        ChessRules x = new ChessRules();
        x.write();
        Due.play(x, Games.KNIGHTS_TO_AND_FRO);
        Due.type(x, Texts.KINGS);
        String before = Due.picture(x);
        for (int far : new int[] {-1, 64, Integer.MIN_VALUE, Integer.MAX_VALUE}) {
            due.outOfBounds("man", () -> x.man(far));
            due.outOfBounds("about", () -> x.about(far));
            due.outOfBounds("attackers of a square", () -> x.attackers(far, 0));
            due.outOfBounds("attackers of a side", () -> x.attackers(0, far));
            due.outOfBounds("move", () -> x.move(far));
            due.outOfBounds("played", () -> x.played(far));
            due.illegal("play", () -> x.play(far));
            due.illegal("ways", () -> x.ways(far));
        }
        due.same("nothing changed", before, Due.picture(x));
        due.textTells(Texts.KINGS, x);
        ChessRules over = Due.from(Texts.KINGS);
        over.write();
        Due.type(over, Texts.FIRST);
        String there = Due.picture(over);
        due.wrongState("play when it is over", () -> over.play(Due.move("e1e2")));
        due.wrongState("back of nothing", () -> over.back());
        due.same("nothing changed when it is over", there, Due.picture(over));
        due.textTells(Texts.FIRST, over);
    }
}
