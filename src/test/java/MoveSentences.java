/** The sentences of promises 10 and 11, moves and move, and of the terms that tell how men move and take. */
final class MoveSentences {
    private static final String MOVES = "Promise 10: moves";
    private static final String MOVE = "Promise 11: move";

    private MoveSentences() {
    }

    static void tell(Sentences s) {
        s.holds(MOVES, "How many legal moves there are.", MoveSentences::howMany);
        s.term(MOVES, "White pawns go up the ranks, from rank 1 (the second), black ones down, from rank 6.", MoveSentences::waysOfPawns);
        s.term(MOVES, "MOVES of the side to move: a man goes as it attacks", MoveSentences::goesAsItAttacks);
        s.term(MOVES, "to a square that is empty or has a man of the other side, which is taken", MoveSentences::emptyOrTaken);
        s.term(MOVES, "but a pawn goes to an empty square one step forwards", MoveSentences::oneStep);
        s.term(MOVES, "or from its first rank two steps over an empty one", MoveSentences::twoSteps);
        s.term(MOVES, "and where it attacks only if it takes there", MoveSentences::pawnTakes);
        s.term(MOVES, "or if that is the passed square:", MoveSentences::onThePassedSquare);
        s.term(MOVES, "then the pawn that is taken is that beside it which just passed.", MoveSentences::pawnBesideIsTaken);
        s.term(MOVES, "A pawn that comes to the last rank becomes a queen, rook, bishop or knight.", MoveSentences::lastRank);
        KingSentences.tell(s);
        s.holds(MOVE, "Legal move k, in order.", MoveSentences::moveInOrder);
        s.holds(MOVE, "IndexOutOfBoundsException when there is none.", MoveSentences::noSuchMove);
        s.term(MOVE, "A MOVE IS TOLD as from + 64 * to + 4096 * m (m the man that a pawn becomes, 2 .. 5, else 0).", MoveSentences::toldSo);
        s.term(MOVE, "Moves are IN ORDER by from, then to, then m.", MoveSentences::order);
    }

    private static void howMany(Due due, int want, String text) {
        due.same("moves() of " + text, want, Due.from(text).moves());
        due.same("moves() of the same with sides exchanged", want, Due.from(Texts.mirrored(text)).moves());
    }

    private static void howMany(Due due) {
        howMany(due, 20, Texts.FIRST);
        howMany(due, 0, Texts.MATED);
        howMany(due, 0, Texts.STALEMATE);
        howMany(due, 26, Texts.CASTLES);
        howMany(due, 48, "r3k2r/p1ppqpb1/bn2pnp1/3PN3/1p2P3/2N2Q1p/PPPBBPPP/R3K2R w KQkq - 0 1");
        howMany(due, 218, "R6R/3Q4/1Q4Q1/4Q3/2Q4Q/Q4Q2/pp1Q4/kBNN1KB1 w - - 0 1");
        howMany(due, 1, "8/8/8/8/8/8/2k5/K7 w - - 0 1");
        // A game that is over by itself has moves still.
        howMany(due, 5, Texts.KINGS);
        howMany(due, 15, "4k3/8/8/8/8/8/8/R3K3 w - - 150 1");
        ChessRules x = new ChessRules();
        for (int i = 0; i < 4; i++) {
            Due.play(x, "g1f3 g8f6 f3g1 f6g8");
        }
        due.same("moves() at the fifth time", 20, x.moves());
    }

    private static String rank(int rank) {
        return "" + (char) ('1' + rank);
    }

    /** A pawn alone on each square where one can be. */
    private static void waysOfPawns(Due due) {
        for (int square = 8; square < 56; square++) {
            String file = "" + (char) ('a' + (square & 7));
            int rank = square >> 3;
            String up = file + rank(rank + 1);
            String ofWhite = rank == 6 ? becoming(up) : rank == 1 ? up + " " + file + rank(3) : up;
            String down = file + rank(rank - 1);
            String ofBlack = rank == 1 ? becoming(down) : rank == 6 ? file + rank(4) + " " + down : down;
            String name = Due.name64(square);
            lonePawn(due, Texts.withKings("P" + name, "w - - 0 1"), name, ofWhite);
            lonePawn(due, Texts.withKings("p" + name, "b - - 0 1"), name, ofBlack);
        }
    }

    private static String becoming(String to) {
        return to + "n " + to + "b " + to + "r " + to + "q";
    }

    private static void lonePawn(Due due, String text, String from, String want) {
        due.same("moves from " + from + " of " + text, want, Turned.targets(Due.from(text), from).trim());
    }

    /** A man alone goes to all squares that it attacks: the kings are out of its way. */
    private static void goesAsItAttacks(Due due) {
        for (char man : "NBRQnbrq".toCharArray()) {
            int side = Character.isUpperCase(man) ? 0 : 1;
            for (int from = 0; from < 64; from++) {
                ChessRules x = Due.from(Texts.withKings(man + Due.name64(from), (side == 0 ? "w" : "b") + " - - 0 1"));
                StringBuilder want = new StringBuilder();
                for (int to = 0; to < 64; to++) {
                    boolean attacks = (x.attackers(to, side) >>> from & 1) != 0;
                    want.append(attacks ? " " + Due.name64(to) : "");
                }
                due.same(man + " from " + Due.name64(from), want.toString(), Turned.targets(x, Due.name64(from)));
            }
        }
        for (int from = 0; from < 64; from++) {
            kingAlone(due, from);
        }
        // Only the side to move moves.
        Turned.goes(due, "4k3/8/8/8/8/8/8/R3K3 b - - 0 1", "a1", "");
        Turned.goes(due, "4k3/8/8/8/8/8/8/R3K3 b - - 0 1", "e8", "d8 f8 d7 e7 f7");
    }

    private static void kingAlone(Due due, int from) {
        int other = from < 32 ? 63 - (from & 1) : from & 1;
        StringBuilder want = new StringBuilder();
        for (int to = 0; to < 64; to++) {
            boolean isFree = Texts.distance(from, to) == 1 && Texts.distance(other, to) > 1;
            want.append(isFree ? " " + Due.name64(to) : "");
        }
        Turned.goes(due, Texts.of("K" + Due.name64(from) + " k" + Due.name64(other), "w - - 0 1"), Due.name64(from), want.toString());
    }

    private static void emptyOrTaken(Due due) {
        Turned.goes(due, Texts.of("Kh1 kh8 Rd4 Pd6 Nb4 Bg4 Bd1", "w - - 0 1"), "d4", "d5 c4 e4 f4 d3 d2");
        Turned.goes(due, Texts.of("Kh1 kh8 Rd4 pd6 nb4 bg4 nd1", "w - - 0 1"), "d4", "d5 d6 c4 b4 e4 f4 g4 d3 d2 d1");
        Turned.goes(due, Texts.of("Ka2 ka8 Bd4 Pb6 Ng7 Nb2 Re3", "w - - 0 1"), "d4", "c5 e5 f6 c3");
        Turned.goes(due, Texts.of("Ka2 ka8 Bd4 pb6 ng7 nb2 pe3", "w - - 0 1"), "d4", "c5 b6 e5 f6 g7 c3 b2 e3");
        Turned.goes(due, Texts.of("Ka3 ka8 Qd4 Pc5 Pd5 Pe5 Pc4 Pe4 Pc3 Pd3 Pe3", "w - - 0 1"), "d4", "");
        Turned.goes(due, Texts.of("Ka1 ka8 Qd4 pc5 pd5 pe5 nc4 ne4 nc3 nd3 ne3", "w - - 0 1"), "d4", "c5 d5 e5 c4 e4 c3 d3 e3");
        Turned.goes(due, Texts.of("Kh1 kh8 Nd4 Pb3 Pb5 Pc2 Pc6 Pe2 Pe6 Pf3 Pf5", "w - - 0 1"), "d4", "");
        Turned.goes(due, Texts.of("Kh1 kh8 Nd4 pb3 pb5 pc2 pc6 pe2 pe6 pf3 pf5", "w - - 0 1"), "d4", "b3 b5 c2 c6 e2 e6 f3 f5");
        // A knight goes over men.
        Turned.goes(due, Texts.of("Kh1 kh8 Nd4 pc3 pd3 pe3 pc4 pe4 pc5 pd5 pe5", "w - - 0 1"), "d4", "b3 b5 c2 c6 e2 e6 f3 f5");
        Turned.goes(due, Texts.of("Kd4 kh8 Pc3 Pc4 Pc5 Nd3 Nd5 Pe3 Pe4 Pe5", "w - - 0 1"), "d4", "");
        Turned.goes(due, Texts.of("Kd4 kh8 ne4 ra5", "w - - 0 1"), "d4", "d3 e3 c4 e4");
        for (String man : new String[] {"p", "n", "b", "r", "q"}) {
            String text = Texts.of("Ka1 kg8 Re4 " + man + "e6", "w - - 7 3");
            Turned.behind(due, text, "e4e6", Texts.of("Ka1 kg8 Re6", "b - - 0 3"));
        }
    }

    private static void oneStep(Due due) {
        for (int rank = 2; rank <= 7; rank++) {
            for (String blocking : new String[] {"P", "N", "B", "R", "Q", "p", "n", "b", "r", "q"}) {
                boolean isPawnOnLast = rank == 7 && blocking.equalsIgnoreCase("p");
                if (!isPawnOnLast) {
                    Turned.goes(due, Texts.withKings("Pd" + rank + " " + blocking + "d" + (rank + 1), "w - - 0 1"), "d" + rank, "");
                }
            }
        }
        Turned.goes(due, Texts.of("Ka1 kd4 Pd3", "w - - 0 1"), "d3", "");
        Turned.goes(due, Texts.of("Kd4 ka8 Pd3", "w - - 0 1"), "d3", "");
        // Never backwards, sideways or slantwise, and from no other rank two steps.
        Turned.goes(due, Texts.of("Ka1 kh8 Pd3", "w - - 0 1"), "d3", "d4");
        Turned.refused(due, Texts.of("Ka1 kh8 Pd3", "w - - 0 1"), "d3d5 d3d2 d3d1 d3c3 d3e3 d3c4 d3e4 d3c2 d3e2 d3d3 d3d6");
        Turned.behind(due, Texts.of("Ka1 kh8 Pd3", "w - - 7 3"), "d3d4", Texts.of("Ka1 kh8 Pd4", "b - - 0 3"));
    }

    private static void twoSteps(Due due) {
        for (char file = 'a'; file <= 'h'; file++) {
            String from = file + "2";
            Turned.goes(due, Texts.withKings("P" + from, "w - - 0 1"), from, file + "3 " + file + "4");
            for (String man : new String[] {"P", "N", "B", "R", "Q", "p", "n", "b", "r", "q"}) {
                Turned.goes(due, Texts.withKings("P" + from + " " + man + file + "3", "w - - 0 1"), from, "");
                Turned.goes(due, Texts.withKings("P" + from + " " + man + file + "4", "w - - 0 1"), from, file + "3");
                Turned.goes(due, Texts.withKings("P" + from + " " + man + file + "5", "w - - 0 1"), from, file + "3 " + file + "4");
            }
        }
        for (int rank = 3; rank <= 6; rank++) {
            Turned.goes(due, Texts.withKings("Pd" + rank, "w - - 0 1"), "d" + rank, "d" + (rank + 1));
        }
        Turned.behind(due, Texts.of("Ka1 kh8 Pd2", "w - - 7 3"), "d2d4", Texts.of("Ka1 kh8 Pd4", "b - - 0 3"));
    }

    private static void pawnTakes(Due due) {
        for (char man : "pnbrq".toCharArray()) {
            Turned.goes(due, Texts.of("Kg1 kh8 Pe4 " + man + "d5", "w - - 0 1"), "e4", "e5 d5");
            Turned.goes(due, Texts.of("Kg1 kh8 Pe4 " + man + "f5", "w - - 0 1"), "e4", "e5 f5");
        }
        for (char man : "PNBRQ".toCharArray()) {
            Turned.goes(due, Texts.of("Kg1 kh8 Pe4 " + man + "d5 " + man + "f5", "w - - 0 1"), "e4", "e5");
        }
        Turned.goes(due, Texts.of("Kd5 kh8 Pe4 pe5", "w - - 0 1"), "e4", "");
        Turned.goes(due, Texts.of("Kg1 kh8 Pe4 pe5 pd5 pf5", "w - - 0 1"), "e4", "d5 f5");
        Turned.goes(due, Texts.of("Ka1 kh8 Pe2 nd3 nf3", "w - - 0 1"), "e2", "e3 e4 d3 f3");
        // It does not take sideways, backwards, two steps away, or over the board's edge.
        Turned.goes(due, Texts.of("Kg1 kg8 Pe4 nd4 nf4 nd3 nc6 ng6", "w - - 0 1"), "e4", "e5");
        Turned.goes(due, Texts.of("Kc1 kc8 Pa4 nh4 nh5 nh6 nh3", "w - - 0 1"), "a4", "a5");
        Turned.goes(due, Texts.of("Kc1 kc8 Ph4 na4 na5 na6 na3", "w - - 0 1"), "h4", "h5");
        Turned.goes(due, Texts.of("Kc1 kc8 Pa4 nb5", "w - - 0 1"), "a4", "a5 b5");
        Turned.goes(due, Texts.of("Kc1 kc8 Ph4 ng5", "w - - 0 1"), "h4", "h5 g5");
        Turned.behind(due, Texts.of("Kg1 kh8 Pe4 pd5 pf5", "w - - 7 3"), "e4d5", Texts.of("Kg1 kh8 Pd5 pf5", "b - - 0 3"));
    }

    private static void onThePassedSquare(Due due) {
        for (int file = 0; file < 8; file++) {
            for (int beside = -1; beside <= 1; beside += 2) {
                if (file + beside >= 0 && file + beside < 8) {
                    passing(due, (char) ('a' + file), (char) ('a' + file + beside));
                }
            }
        }
        // Only pawns take there, from both sides, and a square that nobody passed is no passed square.
        Turned.goes(due, Texts.of("Ka1 kh8 pd5 Pe5 Rd1", "w - d6 0 1"), "d1", "b1 c1 e1 f1 g1 h1 d2 d3 d4 d5");
        Turned.goes(due, Texts.of("Ka1 kg8 pd5 Pe5 Pc5", "w - d6 0 1"), "c5", "c6 d6");
        Turned.goes(due, Texts.of("Ka1 kg8 pd5 Pe5 Pc5", "w - d6 0 1"), "e5", "e6 d6");
        Turned.goes(due, Texts.of("Ka1 kg8 pd5 Pe5 Pb5 Ph5", "w - d6 0 1"), "b5", "b6");
        Turned.goes(due, Texts.of("Ka1 kg8 pd5 pf5 Pe5", "w - d6 0 1"), "e5", "e6 d6");
        Turned.goes(due, Texts.of("Ka1 kg8 pa5 Ph5 Pb5", "w - a6 0 1"), "h5", "h6");
        Turned.goes(due, Texts.of("Ka1 kg8 ph5 Pa5 Pg5", "w - h6 0 1"), "a5", "a6");
        // A knight that goes to the passed square takes no pawn.
        Turned.behind(due, Texts.of("Ka1 kg8 pd5 Pe5 Ne4", "w - d6 7 3"), "e4d6", Texts.of("Ka1 kg8 pd5 Pe5 Nd6", "b - - 8 3"));
        // One move later it is too late.
        ChessRules late = Due.from(Texts.of("Ka1 kh8 Pd2 pe4", "w - - 0 1"));
        Due.play(late, "d2d4");
        due.same("at once", " d3 e3", Turned.targets(late, "e4"));
        Due.play(late, "h8h7 a1a2");
        due.same("too late", " e3", Turned.targets(late, "e4"));
        late.back();
        late.back();
        due.same("at once again", " d3 e3", Turned.targets(late, "e4"));
    }

    private static void passing(Due due, char passes, char takes) {
        String men = "Kd1 kd8 p" + passes + "5 P" + takes + "5";
        Turned.goes(due, Texts.of(men, "w - " + passes + "6 0 1"), takes + "5", takes + "6 " + passes + "6");
        Turned.goes(due, Texts.of(men, "w - - 0 1"), takes + "5", takes + "6");
        String before = Texts.of("Kd1 kd8 p" + passes + "7 P" + takes + "5", "b - - 0 1");
        String behind = Texts.of("Kd1 kd8 P" + passes + "6", "b - - 0 1");
        Turned.behind(due, before, passes + "7" + passes + "5 " + takes + "5" + passes + "6", behind);
    }

    private static void pawnBesideIsTaken(Due due) {
        Turned.behind(due, Texts.of("Ka1 kh8 pd5 Pe5", "w - d6 7 3"), "e5d6", Texts.of("Ka1 kh8 Pd6", "b - - 0 3"));
        Turned.behind(due, Texts.of("Ka1 kh8 pd5 Pe5 Pc5", "w - d6 7 3"), "c5d6", Texts.of("Ka1 kh8 Pe5 Pd6", "b - - 0 3"));
        // The pawns on the other side and on the rank behind stay.
        Turned.behind(due, Texts.of("Ka1 kh8 pd5 pf5 Pe5 pe7", "w - d6 7 3"), "e5d6", Texts.of("Ka1 kh8 pf5 Pd6 pe7", "b - - 0 3"));
        Turned.behind(due, Texts.of("Ka1 kh8 pd5 pf5 Pe5", "w - f6 7 3"), "e5f6", Texts.of("Ka1 kh8 pd5 Pf6", "b - - 0 3"));
        Turned.behind(due, Texts.of("Ka1 kd8 pa5 Pb5 ph6", "w - a6 7 3"), "b5a6", Texts.of("Ka1 kd8 Pa6 ph6", "b - - 0 3"));
        Turned.behind(due, Texts.of("Ka1 kd8 ph5 Pg5 pa7", "w - h6 7 3"), "g5h6", Texts.of("Ka1 kd8 Ph6 pa7", "b - - 0 3"));
        // A step straight on beside it takes nothing.
        Turned.behind(due, Texts.of("Ka1 kh8 pd5 Pe5", "w - d6 7 3"), "e5e6", Texts.of("Ka1 kh8 pd5 Pe6", "b - - 0 3"));
    }

    private static void lastRank(Due due) {
        for (char file = 'a'; file <= 'h'; file++) {
            Turned.goes(due, Texts.withKings("P" + file + "7", "w - - 0 1"), file + "7", becoming(file + "8"));
        }
        String text = Texts.of("Ka1 kh6 Pd7 re8 nc8 bd8", "w - - 7 3");
        Turned.goes(due, text, "d7", becoming("c8") + " " + becoming("e8"));
        for (String letter : new String[] {"N", "B", "R", "Q"}) {
            String becomes = letter.toLowerCase();
            Turned.behind(due, text, "d7c8" + becomes, Texts.of("Ka1 kh6 " + letter + "c8 re8 bd8", "b - - 0 3"));
            Turned.behind(due, Texts.of("Ka1 kh6 Pd7", "w - - 7 3"), "d7d8" + becomes, Texts.of("Ka1 kh6 " + letter + "d8", "b - - 0 3"));
        }
        for (String side : new String[] {"w", "b"}) {
            ChessRules x = Due.from(Texts.of("Ka4 kh4 Pd7 pd2", side + " - - 0 1"));
            int straight = Due.move(side.equals("w") ? "d7d8" : "d2d1");
            for (int m : new int[] {-2, -1, 0, 1, 6, 7, 8, 9, 10, 11, 12, 13, 14, 15, 16, 18, 21}) {
                due.illegal("a pawn that becomes " + m, () -> x.play(straight + 4096 * m));
            }
            due.same("a pawn that becomes a queen", 1, x.play(straight + 4096 * 5));
        }
        // On the last rank but one it stays a pawn.
        Turned.goes(due, Texts.of("Ka1 kh8 Pd6", "w - - 0 1"), "d6", "d7");
        // What it became moves as such.
        ChessRules x = Due.from(Texts.of("Ka1 kh6 Pd7 Pa2", "w - - 0 1"));
        Due.play(x, "d7d8n h6h5");
        due.same("a new knight's moves", " c6 e6 b7 f7", Turned.targets(x, "d8"));
    }

    private static final String[] KNOWN = {
        Texts.FIRST, Texts.CASTLES, Texts.MATED, Texts.STALEMATE, Texts.KINGS,
        "r3k2r/p1ppqpb1/bn2pnp1/3PN3/1p2P3/2N2Q1p/PPPBBPPP/R3K2R w KQkq - 0 1",
        "n1n5/PPPk4/8/8/8/8/4Kppp/5N1N b - - 0 1",
        "8/8/8/2k5/3Pp3/8/8/4K3 b - d3 0 1",
        "R6R/3Q4/1Q4Q1/4Q3/2Q4Q/Q4Q2/pp1Q4/kBNN1KB1 w - - 0 1",
    };

    private static void moveInOrder(Due due) {
        for (String text : KNOWN) {
            ChessRules x = Due.from(text);
            int count = x.moves();
            // Where the game is over by itself a legal move is told apart by its exception.
            String answer = x.result() == 0 ? "1" : "throws.IllegalStateException";
            for (int k = 0; k < count; k++) {
                ChessRules y = Due.from(text);
                int move = x.move(k);
                due.same("play of move(" + k + ") of " + text, answer, Due.answerOf(() -> y.play(move)));
            }
        }
        due.same("the first position's moves",
                "b1a3 b1c3 g1f3 g1h3 a2a3 a2a4 b2b3 b2b4 c2c3 c2c4 d2d3 d2d4 e2e3 e2e4 f2f3 f2f4 g2g3 g2g4 h2h3 h2h4",
                Due.moves(new ChessRules()));
        ChessRules x = new ChessRules();
        Due.play(x, "e2e4");
        due.same("black's first moves",
                "a7a5 a7a6 b7b5 b7b6 c7c5 c7c6 d7d5 d7d6 e7e5 e7e6 f7f5 f7f6 g7g5 g7g6 h7h5 h7h6 b8a6 b8c6 g8f6 g8h6", Due.moves(x));
        due.same("move(19)", Due.move("g8h6"), x.move(19));
        x.back();
        due.same("move(19) when it is taken back", Due.move("h2h4"), x.move(19));
    }

    private static void noSuchMove(Due due) {
        for (String text : KNOWN) {
            ChessRules x = Due.from(text);
            String before = Due.picture(x);
            int count = x.moves();
            for (int k : new int[] {-1, -2, count, count + 1, count + 64, 256, 512, 4096, Integer.MIN_VALUE, Integer.MIN_VALUE + 1,
                Integer.MAX_VALUE - 1, Integer.MAX_VALUE}) {
                due.outOfBounds("move(" + k + ") of " + text, () -> x.move(k));
            }
            if (count > 0) {
                due.same("the last one is there", true, x.move(count - 1) > 0);
                due.same("the first one is there", true, x.move(0) > 0);
            }
            due.same("nothing changed", before, Due.picture(x));
        }
        ChessRules mated = Due.from(Texts.MATED);
        due.outOfBounds("move(0) of a mated side", () -> mated.move(0));
        ChessRules stale = Due.from(Texts.STALEMATE);
        due.outOfBounds("move(0) in a stalemate", () -> stale.move(0));
    }

    private static void toldSo(Due due) {
        due.same("b1a3", 1 + 64 * 16, new ChessRules().move(0));
        due.same("h2h4", 15 + 64 * 31, new ChessRules().move(19));
        ChessRules corner = Due.from("7R/8/8/8/8/k7/8/2K5 w - - 0 1");
        due.same("h8 to h1", true, holds(corner, 63 + 64 * 7));
        ChessRules castles = Due.from(Texts.CASTLES);
        due.same("castling is told as the king's move", true, holds(castles, 4 + 64 * 6) && holds(castles, 4 + 64 * 2));
        ChessRules passing = Due.from("4k3/8/8/3pP3/8/8/8/4K3 w - d6 0 1");
        due.same("passing is told as the pawn's move", true, holds(passing, 36 + 64 * 43));
        for (int m = 0; m < 8; m++) {
            ChessRules white = Due.from("7k/P7/8/8/8/8/8/K7 w - - 0 1");
            due.same("a7a8 with m = " + m, m >= 2 && m <= 5, holds(white, 48 + 64 * 56 + 4096 * m));
            ChessRules black = Due.from("7k/8/8/8/8/8/p7/7K b - - 0 1");
            due.same("a2a1 with m = " + m, m >= 2 && m <= 5, holds(black, 8 + 4096 * m));
            due.same("e2e4 with m = " + m, m == 0, holds(new ChessRules(), 12 + 64 * 28 + 4096 * m));
        }
        int[] men = {2, 3, 4, 5};
        for (int m : men) {
            ChessRules x = Due.from("7k/P7/8/8/8/8/8/K7 w - - 0 1");
            x.play(48 + 64 * 56 + 4096 * m);
            due.same("the man that the pawn became", m, x.man(56));
            ChessRules y = Due.from("7k/8/8/8/8/8/p7/7K b - - 0 1");
            y.play(8 + 4096 * m);
            due.same("the man that black's pawn became", m + 8, y.man(0));
        }
    }

    private static boolean holds(ChessRules x, int move) {
        int count = x.moves();
        for (int k = 0; k < count; k++) {
            if (x.move(k) == move) {
                return true;
            }
        }
        return false;
    }

    private static void order(Due due) {
        for (String text : KNOWN) {
            ChessRules x = Due.from(text);
            int count = x.moves();
            int last = -1;
            for (int k = 0; k < count; k++) {
                int move = x.move(k);
                int place = (move & 63) << 12 | (move >> 6 & 63) << 6 | move >> 12;
                due.same("move(" + k + ") comes behind the one before in " + text, true, place > last);
                last = place;
            }
        }
        due.same("by from, then to, then m",
                "e1d1 e1f1 e1d2 e1e2 e1f2 b7a8n b7a8b b7a8r b7a8q b7b8n b7b8b b7b8r b7b8q b7c8n b7c8b b7c8r b7c8q",
                Due.moves(Due.from("n1n4k/1P6/8/8/8/8/8/4K3 w - - 0 1")));
        due.same("castling in its place", "e1c1 e1d1 e1f1 e1g1 e1d2 e1e2 e1f2",
                Due.moves(Due.from("4k3/8/8/8/8/8/8/R3K2R w KQ - 0 1")).replaceAll("[ah]1[a-h][1-8] ?", "").trim());
        due.same("taking on the passed square in its place", "e1d1 e1f1 e1d2 e1e2 e1f2 e5d6 e5e6",
                Due.moves(Due.from("4k3/8/8/3pP3/8/8/8/4K3 w - d6 0 1")));
    }
}
