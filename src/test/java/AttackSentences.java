/** The sentences of promise 9, attackers, and of the terms that tell how men attack. */
final class AttackSentences {
    /** Whether a man reaches a square so far across and so far up from its own on an empty board. */
    private interface Way {
        boolean reaches(int across, int up);
    }

    private static final String ATTACKERS = "Promise 9: attackers";

    private AttackSentences() {
    }

    static void tell(Sentences s) {
        s.holds(ATTACKERS, "The squares from which a side attacks a square", AttackSentences::ofOneSide);
        s.holds(ATTACKERS, "(whatever stands there, also a man of its own)", AttackSentences::whateverStandsThere);
        s.holds(ATTACKERS, "bit s is set for square s.", AttackSentences::eachBit);
        s.term(ATTACKERS, "A square is ATTACKED by a side, if a man of it could take there by its way of moving, whatever is there",
                AttackSentences::whateverStandsThere);
        s.term(ATTACKERS, "and whatever comes of its king:", AttackSentences::whateverComesOfItsKing);
        s.term(ATTACKERS, "a pawn one step forwards and to one side", AttackSentences::pawns);
        s.term(ATTACKERS, "a knight two squares along and one across", AttackSentences::knights);
        s.term(ATTACKERS, "a king any next square", AttackSentences::kings);
        s.term(ATTACKERS, "a bishop, rook, queen along diagonals, files and ranks, or both", AttackSentences::lines);
        s.term(ATTACKERS, "over empty squares.", AttackSentences::overEmptySquares);
    }

    private static void attackers(Due due, ChessRules x, String square, int side, String want) {
        long set = 0;
        for (String name : want.split(" ")) {
            set |= name.isEmpty() ? 0 : 1L << Due.square(name);
        }
        due.same("attackers(" + square + ", " + side + ")", set, x.attackers(Due.square(square), side));
    }

    private static void ofOneSide(Due due) {
        ChessRules first = new ChessRules();
        attackers(due, first, "f3", 0, "e2 g2 g1");
        attackers(due, first, "f3", 1, "");
        attackers(due, first, "f6", 1, "e7 g7 g8");
        attackers(due, first, "f6", 0, "");
        attackers(due, first, "e4", 0, "");
        ChessRules x = Due.from("3r3k/1b6/8/R2qp2R/2P1P3/2N1N3/8/B2Q3K b - - 0 1");
        attackers(due, x, "d5", 0, "a5 c4 e4 c3 e3 d1");
        attackers(due, x, "d5", 1, "b7 d8");
        attackers(due, x, "e5", 0, "h5");
        attackers(due, x, "d4", 0, "d1");
        attackers(due, x, "d4", 1, "d5 e5");
        ChessRules all = Due.from("3q3k/3r4/1n3n2/4p3/8/2N1N3/Q2RB3/K7 w - - 0 1");
        attackers(due, all, "d5", 0, "a2 d2 c3 e3");
        attackers(due, all, "d5", 1, "b6 f6 d7");
        Due.play(all, "d2d7");
        attackers(due, all, "d5", 0, "a2 c3 e3 d7");
        attackers(due, all, "d5", 1, "b6 f6");
        all.back();
        attackers(due, all, "d5", 1, "b6 f6 d7");
    }

    private static void whateverStandsThere(Due due) {
        String[] attackers = {"Pc4", "Pe4", "Nb4", "Nf6", "Ba2", "Rh5", "Rd1", "Qg2", "Qd8", "Kc6"};
        for (String attacker : attackers) {
            for (String there : new String[] {"", "Pd5", "Nd5", "Bd5", "Rd5", "Qd5", "pd5", "nd5", "bd5", "rd5", "qd5"}) {
                boolean isKing = attacker.startsWith("K");
                String text = Texts.of((isKing ? "kh8 " : "Ka7 kh7 ") + attacker + " " + there, isKing ? "w - - 0 1" : "b - - 0 1");
                askBoth(due, text, attacker.substring(1), "d5");
            }
            if (!attacker.startsWith("K")) {
                askBoth(due, Texts.of("Kd5 ka7 " + attacker, "w - - 0 1"), attacker.substring(1), "d5");
                askBoth(due, Texts.of("Ka7 kd5 " + attacker, "b - - 0 1"), attacker.substring(1), "d5");
            }
        }
        ChessRules first = new ChessRules();
        attackers(due, first, "d2", 0, "b1 c1 d1 e1");
        attackers(due, first, "e7", 1, "d8 e8 f8 g8");
        attackers(due, first, "e1", 0, "d1");
        attackers(due, first, "d1", 0, "e1");
        // Nobody attacks the square where it stands.
        attackers(due, first, "a1", 0, "");
        attackers(due, first, "h8", 1, "");
        // A pawn does not attack what it may only pass.
        ChessRules passing = Due.from("4k3/8/8/3pP3/8/8/8/4K3 w - d6 0 1");
        attackers(due, passing, "d6", 0, "e5");
        attackers(due, passing, "d5", 0, "");
        attackers(due, passing, "e6", 0, "");
    }

    /** Only one man of white attacks the square, also when the board is turned round. */
    private static void askBoth(Due due, String text, String from, String square) {
        attackers(due, Due.from(text), square, 0, from);
        attackers(due, Due.from(Texts.mirrored(text)), Texts.mirroredNames(square), 1, Texts.mirroredNames(from));
    }

    private static void eachBit(Due due) {
        for (int from = 0; from < 64; from++) {
            ChessRules x = Due.from(Texts.withKings("N" + Due.name64(from), "w - - 0 1"));
            for (int to = 0; to < 64; to++) {
                boolean isNext = Math.abs((to & 7) - (from & 7)) * Math.abs((to >> 3) - (from >> 3)) == 2;
                long kingOfWhite = x.attackers(to, 0) & ~(1L << from);
                due.same("bit " + from + " of attackers(" + to + ", 0)", isNext ? 1L << from : 0, x.attackers(to, 0) - kingOfWhite);
            }
        }
        ChessRules corner = Due.from("k6R/8/8/8/8/8/8/4K3 b - - 0 1");
        due.same("bit 63 is the sign", Long.MIN_VALUE, corner.attackers(7, 0) & ~(1L << 4));
        due.same("bit 0 is the lowest", 1L, Due.from("k7/8/8/8/8/8/8/R3K3 b - - 0 1").attackers(56, 0));
    }

    private static void whateverComesOfItsKing(Due due) {
        // The knight, the bishop, the rook, the pawn must not leave their king's line.
        askBoth(due, Texts.of("Ke1 kh8 re8 Ne4", "w - - 0 1"), "e4", "d6");
        askBoth(due, Texts.of("Ke1 kh8 re8 Be4", "w - - 0 1"), "e4", "b7");
        askBoth(due, Texts.of("Ke1 kh8 re8 Re4", "w - - 0 1"), "e4", "a4");
        askBoth(due, Texts.of("Ke1 kh8 re8 Pe4", "w - - 0 1"), "e4", "d5");
        askBoth(due, Texts.of("Ke1 kh8 re8 Qe4", "w - - 0 1"), "e4", "a8");
        // The king is in check and another man attacks all the same; the king where it may not go.
        askBoth(due, Texts.of("Ke1 kh8 re8 Na4", "w - - 0 1"), "a4", "b6");
        askBoth(due, Texts.of("Ke1 kh8 rd8", "w - - 0 1"), "e1", "d1");
        askBoth(due, Texts.of("Ke1 ke3", "w - - 0 1"), "e1", "e2");
        // A side attacks when the other one is to move, too.
        askBoth(due, Texts.of("Ke1 kh8 Na4", "b - - 0 1"), "a4", "b6");
    }

    /** A man alone but for kings out of its way: all squares are asked, for both sides. */
    private static void lone(Due due, char man, Way way) {
        boolean isPawn = man == 'P' || man == 'p';
        int side = Character.isUpperCase(man) ? 0 : 1;
        for (int from = isPawn ? 8 : 0; from < (isPawn ? 56 : 64); from++) {
            ChessRules x = Due.from(Texts.withKings(man + Due.name64(from), "w - - 0 1"));
            int ownKing = squareOf(x, 6 + 8 * side);
            int otherKing = squareOf(x, 14 - 8 * side);
            for (int to = 0; to < 64; to++) {
                boolean reaches = way.reaches((to & 7) - (from & 7), (to >> 3) - (from >> 3));
                long own = (reaches ? 1L << from : 0) | kingBit(ownKing, to);
                due.same(man + " on " + from + ": attackers(" + to + ", " + side + ")", own, x.attackers(to, side));
                long other = kingBit(otherKing, to);
                due.same(man + " on " + from + ": attackers(" + to + ", " + (1 - side) + ")", other, x.attackers(to, 1 - side));
            }
        }
    }

    private static int squareOf(ChessRules x, int man) {
        for (int square = 0; square < 64; square++) {
            if (x.man(square) == man) {
                return square;
            }
        }
        throw new AssertionError("there is no man " + man);
    }

    private static long kingBit(int king, int to) {
        return Texts.distance(king, to) == 1 ? 1L << king : 0;
    }

    private static void pawns(Due due) {
        lone(due, 'P', (across, up) -> up == 1 && Math.abs(across) == 1);
        lone(due, 'p', (across, up) -> up == -1 && Math.abs(across) == 1);
    }

    private static void knights(Due due) {
        Way way = (across, up) -> Math.abs(across) == 2 && Math.abs(up) == 1 || Math.abs(across) == 1 && Math.abs(up) == 2;
        lone(due, 'N', way);
        lone(due, 'n', way);
    }

    private static void kings(Due due) {
        for (int white = 0; white < 64; white++) {
            int black = white < 32 ? 63 - (white & 1) : white & 1;
            ChessRules x = Due.from(Texts.of("K" + Due.name64(white) + " k" + Due.name64(black), "w - - 0 1"));
            for (int to = 0; to < 64; to++) {
                due.same("white's king", kingBit(white, to), x.attackers(to, 0));
                due.same("black's king", kingBit(black, to), x.attackers(to, 1));
            }
        }
    }

    private static void lines(Due due) {
        Way diagonal = (across, up) -> across != 0 && Math.abs(across) == Math.abs(up);
        Way straight = (across, up) -> (across == 0) != (up == 0);
        Way both = (across, up) -> diagonal.reaches(across, up) || straight.reaches(across, up);
        lone(due, 'B', diagonal);
        lone(due, 'b', diagonal);
        lone(due, 'R', straight);
        lone(due, 'r', straight);
        lone(due, 'Q', both);
        lone(due, 'q', both);
    }

    /** A man of either side stands on a line: it is attacked, what is behind it is not. */
    private static void overEmptySquares(Due due) {
        for (String from : new String[] {"d4", "e5", "a1", "h1", "a8", "h8", "a4", "e8"}) {
            for (int direction = 0; direction < 9; direction++) {
                int across = direction % 3 - 1;
                int up = direction / 3 - 1;
                for (char between : "NnRqB".toCharArray()) {
                    askLine(due, from, across, up, between);
                }
            }
        }
    }

    private static void askLine(Due due, String from, int across, int up, char between) {
        if (across == 0 && up == 0) {
            return;
        }
        char line = across == 0 || up == 0 ? 'R' : 'B';
        for (char man : new char[] {line, 'Q'}) {
            for (int near = 1; isOnBoard(from, near * across, near * up); near++) {
                String text = Texts.withKings(man + from + " " + between + away(from, near * across, near * up), "w - - 0 1");
                ChessRules x = Due.from(text);
                for (int far = 1; isOnBoard(from, far * across, far * up); far++) {
                    String to = away(from, far * across, far * up);
                    boolean isSet = (x.attackers(Due.square(to), 0) >>> Due.square(from) & 1) != 0;
                    due.same(from + " attacks " + to + " in " + text, far <= near, isSet);
                }
            }
        }
    }

    private static boolean isOnBoard(String from, int across, int up) {
        int file = from.charAt(0) - 'a' + across;
        int rank = from.charAt(1) - '1' + up;
        return file >= 0 && file < 8 && rank >= 0 && rank < 8;
    }

    private static String away(String from, int across, int up) {
        return "" + (char) (from.charAt(0) + across) + (char) (from.charAt(1) + up);
    }
}
