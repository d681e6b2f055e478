/** The sentences of the terms that tell of castling, and of moves that leave a king in check. */
final class KingSentences {
    private static final String MOVES = "Promise 10: moves";
    private static final String STEPS = "d1 f1 d2 e2 f2";

    private KingSentences() {
    }

    static void tell(Sentences s) {
        s.term(MOVES, "CASTLING: with the right for it", KingSentences::withTheRight);
        s.term(MOVES, "the king goes from its first square (e1, e8) two squares towards the rook on its first square (h or a file),"
                + " which comes to the square that the king passed", KingSentences::kingAndRook);
        s.term(MOVES, "all squares between them must be empty", KingSentences::squaresBetween);
        s.term(MOVES, "the king not in check", KingSentences::notInCheck);
        s.term(MOVES, "and the square that it passes not attacked.", KingSentences::passesNoAttack);
        s.term(MOVES, "A move is LEGAL, if its side is not in check behind it.", KingSentences::legal);
    }

    private static void withTheRight(Due due) {
        for (int rights = 0; rights < 16; rights++) {
            StringBuilder told = new StringBuilder();
            for (int i = 0; i < 4; i++) {
                told.append((rights >> i & 1) != 0 ? "" + "KQkq".charAt(i) : "");
            }
            String men = "r3k2r/8/8/8/8/8/8/R3K2R";
            String field = rights == 0 ? "-" : told.toString();
            String white = ((rights & 2) != 0 ? " c1 d1" : " d1") + ((rights & 1) != 0 ? " f1 g1" : " f1") + " d2 e2 f2";
            due.same("white with the rights " + field, white, Turned.targets(Due.from(men + " w " + field + " - 0 1"), "e1"));
            String black = " d7 e7 f7" + ((rights & 8) != 0 ? " c8 d8" : " d8") + ((rights & 4) != 0 ? " f8 g8" : " f8");
            due.same("black with the rights " + field, black, Turned.targets(Due.from(men + " b " + field + " - 0 1"), "e8"));
        }
        // A right that was lost does not come again with the men.
        ChessRules x = Due.from(Texts.CASTLES);
        Due.play(x, "h1h2 a8a7 h2h1 a7a8");
        due.same("white's short right is lost", " c1 d1 f1 d2 e2 f2", Turned.targets(x, "e1"));
        Due.play(x, "a1b1");
        due.same("black's long right is lost", " d7 e7 f7 d8 f8 g8", Turned.targets(x, "e8"));
        x.back();
        x.back();
        x.back();
        x.back();
        x.back();
        due.same("the rights are there again", " c1 d1 f1 g1 d2 e2 f2", Turned.targets(x, "e1"));
    }

    private static void kingAndRook(Due due) {
        String rest = "w KQ - 7 3";
        Turned.behind(due, Texts.of("Ke1 Ra1 Rh1 ke8", rest), "e1g1", Texts.of("Kg1 Ra1 Rf1 ke8", "b - - 8 3"));
        Turned.behind(due, Texts.of("Ke1 Ra1 Rh1 ke8", rest), "e1c1", Texts.of("Kc1 Rd1 Rh1 ke8", "b - - 8 3"));
        Turned.behind(due, Texts.CASTLES, "e1g1 e8c8", "2kr3r/8/8/8/8/8/8/R4RK1 w - - 2 2");
        Turned.behind(due, Texts.CASTLES, "e1c1 e8g8", "r4rk1/8/8/8/8/8/8/2KR3R w - - 2 2");
        // No other square, and not from elsewhere or with a man that is no rook.
        Turned.refused(due, Texts.CASTLES, "e1b1 e1a1 e1h1 e1e3 e1c3 e1g3");
        Turned.goes(due, Texts.of("Kd1 Ra1 Rh1 ke8", "w - - 0 1"), "d1", "c1 e1 c2 d2 e2");
        // A rook of its own king's rank that moves two squares is no castling.
        Turned.behind(due, Texts.of("Ke1 Rh1 ke8", "w K - 7 3"), "h1f1", Texts.of("Ke1 Rf1 ke8", "b - - 8 3"));
        Turned.behind(due, Texts.of("Ke1 Rh1 ke8", "w K - 7 3"), "e1f1", Texts.of("Kf1 Rh1 ke8", "b - - 8 3"));
    }

    private static void squaresBetween(Due due) {
        String rest = "w KQ - 0 1";
        String home = "Ke1 Ra1 Rh1 ke8 ";
        Turned.goes(due, Texts.of(home + "Nf1", rest), "e1", "c1 d1 d2 e2 f2");
        Turned.goes(due, Texts.of(home + "Ng1", rest), "e1", "c1 d1 f1 d2 e2 f2");
        Turned.goes(due, Texts.of(home + "Nd1", rest), "e1", "f1 g1 d2 e2 f2");
        Turned.goes(due, Texts.of(home + "Nc1", rest), "e1", "d1 f1 g1 d2 e2 f2");
        Turned.goes(due, Texts.of(home + "Nb1", rest), "e1", "d1 f1 g1 d2 e2 f2");
        Turned.goes(due, Texts.of(home + "Nf1 Nb1", rest), "e1", "d1 d2 e2 f2");
        // Men of the other side, which guard some of the king's steps.
        Turned.goes(due, Texts.of(home + "nf1", rest), "e1", "c1 d1 f1 e2 f2");
        Turned.goes(due, Texts.of(home + "ng1", rest), "e1", "c1 d1 f1 d2 f2");
        Turned.goes(due, Texts.of(home + "nd1", rest), "e1", "d1 f1 g1 d2 e2");
        Turned.goes(due, Texts.of(home + "nc1", rest), "e1", "d1 f1 g1 d2 f2");
        Turned.goes(due, Texts.of(home + "nb1", rest), "e1", "d1 f1 g1 e2 f2");
        for (char man : "RQB".toCharArray()) {
            Turned.refused(due, Texts.of(home + man + "f1", rest), "e1g1");
            Turned.refused(due, Texts.of(home + man + "g1", rest), "e1g1");
            Turned.refused(due, Texts.of(home + man + "d1", rest), "e1c1");
            Turned.refused(due, Texts.of(home + man + "c1", rest), "e1c1");
            Turned.refused(due, Texts.of(home + man + "b1", rest), "e1c1");
        }
        // Men on the rank above are not between.
        Turned.goes(due, Texts.of(home + "Pa2 Pb2 Pc2 Pd2 Pe2 Pf2 Pg2 Ph2", rest), "e1", "c1 d1 f1 g1");
    }

    private static void notInCheck(Due due) {
        String home = "Ke1 Ra1 Rh1 kb8 ";
        for (String check : new String[] {"re8", "re2", "qe5", "bb4", "bh4", "qa5", "nd3", "nf3", "nc2", "ng2", "pd2", "pf2"}) {
            Turned.refused(due, Texts.of(home + check, "w KQ - 0 1"), "e1g1 e1c1");
        }
        // When the check is gone, the right is there still.
        ChessRules x = Due.from(Texts.of("Ke1 Ra1 Rh1 kg8 re8 Bd1", "w KQ - 0 1"));
        due.same("in check", " f1 d2 f2", Turned.targets(x, "e1"));
        Due.play(x, "d1e2 e8a8");
        due.same("castling when the check is gone", " c1 d1 f1 g1 d2 f2", Turned.targets(x, "e1"));
    }

    private static void passesNoAttack(Due due) {
        String home = "Ke1 Ra1 Rh1 kb7 ";
        for (String attack : new String[] {"rf8", "rf2", "qf5", "ba6", "bh3", "ng3", "nh2", "ne3", "pg2"}) {
            Turned.refused(due, Texts.of(home + attack, "w KQ - 0 1"), "e1g1");
        }
        for (String attack : new String[] {"rd8", "rd2", "qd5", "ba4", "bh5", "nc3", "nb2", "pc2"}) {
            Turned.refused(due, Texts.of(home + attack, "w KQ - 0 1"), "e1c1");
        }
        Turned.goes(due, Texts.of(home + "rf8", "w KQ - 0 1"), "e1", "c1 d1 d2 e2");
        Turned.goes(due, Texts.of(home + "rd8", "w KQ - 0 1"), "e1", "f1 g1 e2 f2");
        // The squares beside and under the rook may be attacked: the king does not pass them.
        Turned.goes(due, Texts.of(home + "rb5", "w KQ - 0 1"), "e1", "c1 g1 " + STEPS);
        Turned.goes(due, Texts.of(home + "rh8", "w KQ - 0 1"), "e1", "c1 g1 " + STEPS);
        Turned.goes(due, Texts.of(home + "ra8", "w KQ - 0 1"), "e1", "c1 g1 " + STEPS);
        // The man that attacks may be held by its own king; men of the king's side do not count.
        Turned.refused(due, Texts.of("Ke1 Ra1 Rh1 kg7 rf7 Rb7", "w KQ - 0 1"), "e1g1");
        Turned.goes(due, Texts.of(home + "Rf8 Rd8", "w KQ - 0 1"), "e1", "c1 g1 " + STEPS);
    }

    private static void legal(Due due) {
        heldMen(due);
        kingSteps(due);
        outOfCheck(due);
        passingThatOpens(due);
        castlingIntoCheck(due);
    }

    /** In each direction from the king: a man between it and an attacker goes along that line alone. */
    private static void heldMen(Due due) {
        for (int direction = 0; direction < 9; direction++) {
            int across = direction % 3 - 1;
            int up = direction / 3 - 1;
            if (across != 0 || up != 0) {
                String[] line = new String[4];
                for (int i = 0; i < 4; i++) {
                    line[i] = "" + (char) ('d' + i * across) + (char) ('4' + i * up);
                }
                askHeld(due, line, across == 0 || up == 0);
            }
        }
    }

    private static void askHeld(Due due, String[] line, boolean isStraight) {
        String king = "K" + line[0];
        for (char attacker : new char[] {isStraight ? 'r' : 'b', 'q'}) {
            String end = " " + attacker + line[3];
            Turned.goes(due, Texts.withBlackKing(king + " Q" + line[2] + end, "w - - 0 1"), line[2], line[1] + " " + line[3]);
            Turned.goes(due, Texts.withBlackKing(king + " N" + line[2] + end, "w - - 0 1"), line[2], "");
            // Two men between: neither is held.
            String shielded = Texts.withBlackKing(king + " P" + line[1] + " N" + line[2] + end, "w - - 0 1");
            due.same("a knight behind a pawn of " + shielded, true, !Turned.targets(Due.from(shielded), line[2]).isEmpty());
        }
        // This man does not attack along this line, so it holds nobody.
        String harmless = Texts.withBlackKing(king + " N" + line[2] + " " + (isStraight ? 'b' : 'r') + line[3], "w - - 0 1");
        due.same("a knight that is not held in " + harmless, true, !Turned.targets(Due.from(harmless), line[2]).isEmpty());
    }

    private static void kingSteps(Due due) {
        Turned.goes(due, Texts.of("Ke4 kh8 rd8 rf8", "w - - 0 1"), "e4", "e3 e5");
        Turned.goes(due, Texts.of("Ka1 kc3", "w - - 0 1"), "a1", "b1 a2");
        Turned.goes(due, Texts.of("Ka1 kc2", "w - - 0 1"), "a1", "a2");
        // What it might take is guarded, or is not.
        Turned.goes(due, Texts.of("Ka1 kh8 pb2 pa3", "w - - 0 1"), "a1", "b1 a2");
        Turned.goes(due, Texts.of("Ka1 kh8 rb1 rg2", "w - - 0 1"), "a1", "b1");
        // It does not step back along the line of the check.
        Turned.goes(due, Texts.of("Ke4 kh8 re8", "w - - 0 1"), "e4", "d3 d4 d5 f3 f4 f5");
        Turned.goes(due, Texts.of("Kd4 kh1 bg7", "w - - 0 1"), "d4", "d3 c4 e4 d5 c5 e3");
        Turned.goes(due, Texts.of("Ke4 kh8 qh4", "w - - 0 1"), "e4", "d3 e3 f3 d5 e5 f5");
    }

    private static void outOfCheck(Due due) {
        Turned.allMoves(due, "4r1k1/8/8/8/8/8/8/3QK3 w - - 0 1", "d1e2 e1f1 e1d2 e1f2");
        Turned.allMoves(due, "4r1k1/8/8/8/8/8/8/R3K1NR w - - 0 1", "e1d1 e1f1 e1d2 e1f2 g1e2");
        // Two checks: only the king moves.
        Turned.allMoves(due, "4r1k1/8/8/8/7b/8/8/R3K1NR w - - 0 1", "e1d1 e1f1 e1d2");
        // A knight's check can't be shielded from; it may be taken.
        Turned.allMoves(due, "6k1/8/8/8/8/1P1n4/3PPP2/3QKB2 w - - 0 1", "e2d3");
        // A man that is held on another line does not help.
        Turned.allMoves(due, "4r1k1/8/8/b7/8/8/3B4/4K3 w - - 0 1", "e1d1 e1f1 e1f2");
    }

    private static void passingThatOpens(Due due) {
        Turned.goes(due, Texts.of("Ke1 kg8 re8 pd5 Pe5", "w - d6 0 1"), "e5", "e6");
        Turned.goes(due, Texts.of("Ka5 kg8 rh5 pd5 Pe5", "w - d6 0 1"), "e5", "e6");
        Turned.goes(due, Texts.of("Ka5 kg8 qh5 pd5 Pc5", "w - d6 0 1"), "c5", "c6");
        Turned.goes(due, Texts.of("Kf3 kg8 ba8 pd5 Pe5", "w - d6 0 1"), "e5", "e6");
        // A third man on the rank shields the king.
        Turned.goes(due, Texts.of("Ka5 kg8 rh5 pd5 Pe5 Nb5", "w - d6 0 1"), "e5", "e6 d6");
        // The line that it opens is the one that it goes along: file and diagonal stay shielded.
        Turned.goes(due, Texts.of("Kg3 kg8 bb8 pd5 Pe5", "w - d6 0 1"), "e5", "d6");
        // The pawn that passed gives check: to take it is legal, and so is to shield by taking.
        Turned.goes(due, Texts.of("Kc4 kh8 pd5 Pe5", "w - d6 0 1"), "e5", "d6");
        Turned.goes(due, Texts.of("Kd4 kh8 pd5 Pe5 rd8", "w - d6 0 1"), "e5", "e6 d6");
        Turned.goes(due, Texts.of("Kf4 kh8 pd5 Pe5 bb8", "w - d6 0 1"), "e5", "d6");
        Turned.goes(due, Texts.of("Kh2 kh8 pd5 Pc5 bb8", "w - d6 0 1"), "c5", "d6");
    }

    private static void castlingIntoCheck(Due due) {
        for (String attack : new String[] {"rg8", "rg2", "qg5", "ba7", "nh3", "nf3", "ne2", "ph2", "pf2"}) {
            Turned.refused(due, Texts.of("Ke1 Ra1 Rh1 kb8 " + attack, "w KQ - 0 1"), "e1g1");
        }
        for (String attack : new String[] {"rc8", "rc2", "qc5", "bh6", "nb3", "nd3", "na2", "ne2", "pb2", "pd2"}) {
            Turned.refused(due, Texts.of("Ke1 Ra1 Rh1 kb8 " + attack, "w KQ - 0 1"), "e1c1");
        }
        Turned.goes(due, Texts.of("Ke1 Ra1 Rh1 kb8 rg8", "w KQ - 0 1"), "e1", "c1 " + STEPS);
        Turned.goes(due, Texts.of("Ke1 Ra1 Rh1 kb8 rc8", "w KQ - 0 1"), "e1", "g1 " + STEPS);
    }
}
