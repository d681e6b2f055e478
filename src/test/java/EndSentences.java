/** The sentences of promises 15 to 18, occurrence, result, claims and ways, and of the terms that they use. */
final class EndSentences {
    private static final String OCCURRENCE = "Promise 15: occurrence";
    private static final String RESULT = "Promise 16: result";
    private static final String CLAIMS = "Promise 17: claims";
    private static final String ROOKS_TO_AND_FRO = "a1b1 a8b8 b1a1 b8a8";

    private EndSentences() {
    }

    static void tell(Sentences s) {
        s.holds(OCCURRENCE, "The OCCURRENCE of the present position.", EndSentences::occurrenceOfThePresent);
        s.term(OCCURRENCE, "Two positions of a game are THE SAME, if men", EndSentences::sameMen);
        s.term(OCCURRENCE, "men, side to move", EndSentences::sameSide);
        s.term(OCCURRENCE, "and rights are", EndSentences::sameRights);
        s.term(OCCURRENCE, "and what pawns may legally take on passed squares.", EndSentences::samePassing);
        s.term(OCCURRENCE, "THE OCCURRENCE of the present one is how often the same one stood in the game (itself counted).",
                EndSentences::howOften);
        tellResult(s);
        s.holds(CLAIMS, "What the side to move may claim: 1 the same position for the third time (or more)", EndSentences::thirdTime);
        s.holds(CLAIMS, "2 the clock is 100 or more", EndSentences::clockOfHundred);
        s.holds(CLAIMS, "3 both", EndSentences::bothClaims);
        s.holds(CLAIMS, "0 nothing", EndSentences::nothingToClaim);
        s.holds(CLAIMS, "0 when the game is over (result above 0).", EndSentences::noClaimWhenOver);
        WaysSentences.tell(s);
    }

    private static void tellResult(Sentences s) {
        s.term(RESULT, "There is TOO LITTLE left, if there are only kings", EndSentences::onlyKings);
        s.term(RESULT, "and besides at most one knight alone", EndSentences::oneKnight);
        s.term(RESULT, "or bishops alone that all stand on squares of one colour.", EndSentences::bishopsOfOneColour);
        s.holds(RESULT, "How the game stands: 0 it goes on", EndSentences::goesOn);
        s.holds(RESULT, "1 the side to move is mated", EndSentences::mated);
        s.holds(RESULT, "2 it is stalemate", EndSentences::stalemate);
        s.holds(RESULT, "3 there is TOO LITTLE left", EndSentences::tooLittle);
        s.holds(RESULT, "4 the same position for the fifth time", EndSentences::fifthTime);
        s.holds(RESULT, "5 the clock is 150 or more", EndSentences::clockRanOut);
        s.holds(RESULT, "(the first that fits counts).", EndSentences::firstThatFits);
        s.holds(RESULT, "What may be claimed does not end it.", EndSentences::claimsDoNotEnd);
    }

    private static void occurrence(Due due, int want, String text, String moves) {
        ChessRules x = Due.from(text);
        Due.play(x, moves);
        due.same("occurrence() behind " + moves + " of " + text, want, x.occurrence());
        ChessRules y = Due.from(Texts.mirrored(text));
        Due.play(y, Texts.mirroredNames(moves));
        due.same("occurrence() with sides exchanged", want, y.occurrence());
    }

    private static void occurrenceOfThePresent(Due due) {
        ChessRules x = new ChessRules();
        due.same("at first", 1, x.occurrence());
        Games.repeat(x, Games.KNIGHTS_TO_AND_FRO, 2);
        due.same("the third time", 3, x.occurrence());
        Due.play(x, "e2e4");
        due.same("a new one", 1, x.occurrence());
        x.back();
        due.same("taken back", 3, x.occurrence());
        Due.play(x, "g1f3");
        due.same("one that stood twice before", 3, x.occurrence());
        Due.play(x, "g8h6");
        due.same("one that never stood", 1, x.occurrence());
    }

    private static void sameMen(Due due) {
        // Two men changed places.
        occurrence(due, 1, "4k3/8/8/8/8/8/8/RQ2K3 w - - 0 1", "a1a2 e8e7 b1a1 e7e8 a2b2 e8e7 b2b1 e7e8");
        occurrence(due, 1, "4k3/8/8/8/8/8/8/RN2K3 w - - 0 1",
                "b1c3 e8e7 a1b1 e7e8 c3b5 e8e7 b5c3 e7e8 c3a2 e8e7 a2c1 e7e8 c1b3 e8e7 b3a1 e7e8");
        occurrence(due, 1, "4k3/8/8/8/R6r/8/8/4K3 w - - 0 1", "a4a5 h4h3 a5h5 h3a3 h5h4 a3a4");
        occurrence(due, 1, "4k3/p7/8/8/8/8/8/RK6 w - - 0 1", "b1b2 e8e7 a1b1 e7e8 b2a2 e8e7 a2a1 e7e8");
        occurrence(due, 1, "4k3/p7/8/8/8/8/8/NK6 w - - 0 1", "b1c1 e8e7 a1b3 e7e8 c1b1 e8e7 b1a1 e7e8 b3d2 e8e7 d2b1 e7e8");
        occurrence(due, 1, "4k3/p7/8/8/8/8/8/N1B1K3 w - - 0 1", "c1b2 e8e7 a1b3 e7e8 b2a1 e8e7 b3c1 e7e8");
        // One is gone.
        for (String gone : new String[] {"p", "n", "b", "r", "q"}) {
            occurrence(due, 1, "4k3/7p/8/8/8/8/" + gone + "7/R3K3 w - - 0 1", "a1a2 e8e7 a2a1 e7e8");
        }
        for (int square = 0; square < 64; square++) {
            goneFrom(due, square);
        }
        // One became another.
        occurrence(due, 1, "7k/1P6/8/8/8/8/8/K7 w - - 0 1", "b7b8q h8h7 b8b7 h7h8");
        // The same men, but which of two rooks stands where does not count.
        occurrence(due, 2, "4k3/8/8/8/8/8/8/RR2K3 w - - 0 1", "a1a2 e8e7 b1a1 e7e8 a2b2 e8e7 b2b1 e7e8");
    }

    /** A queen takes a knight and goes back, black's king goes and comes: only this square differs then. */
    private static void goneFrom(Due due, int square) {
        String there = Due.name64(square);
        String beside = Due.name64((square & 7) < 7 ? square + 1 : square - 1);
        String text = Texts.withKings("n" + there + " Q" + beside, "w - - 0 1");
        String home = Due.name64(kingOfBlack(text));
        for (int king = 0; king < 64; king++) {
            String away = Due.name64(king);
            ChessRules x = Due.from(text);
            if (plays(x, beside + there, home + away, there + beside, away + home)) {
                due.same("the knight on " + there + " of " + text + " is gone", 1, x.occurrence());
                return;
            }
        }
        due.wrong("black's king can't go and come in " + text);
    }

    private static int kingOfBlack(String text) {
        ChessRules x = Due.from(text);
        int square = 0;
        while (x.man(square) != 14) {
            square++;
        }
        return square;
    }

    /** Plays these moves as far as they are legal: whether all were. */
    private static boolean plays(ChessRules x, String... moves) {
        for (String move : moves) {
            if (Due.answerOf(() -> x.play(Due.move(move))).startsWith("throws")) {
                return false;
            }
        }
        return true;
    }

    private static void sameSide(Due due) {
        occurrence(due, 1, "4k3/8/8/8/8/8/8/R3K3 w - - 0 1", "a1b1 e8e7 b1c1 e7e8 c1a1");
        occurrence(due, 2, "4k3/8/8/8/8/8/8/R3K3 w - - 0 1", "a1b1 e8e7 b1c1 e7e8 c1a1 e8e7 a1b1 e7e8 b1a1");
        // The other side is to move, and a right is lost besides.
        for (String right : new String[] {"K", "Q", "KQ"}) {
            occurrence(due, 1, "4k3/8/8/8/8/8/8/R3K2R w " + right + " - 0 1", "e1e2 e8e7 e2d1 e7e8 d1e1");
            occurrence(due, 1, "4k3/8/8/8/8/8/8/R3K2R w " + right + " - 0 1", "h1g1 e8e7 g1f1 e7e8 f1h1");
        }
    }

    private static void sameRights(Due due) {
        occurrence(due, 1, Texts.CASTLES, "h1g1 h8g8 g1h1 g8h8");
        occurrence(due, 2, Texts.CASTLES, "h1g1 h8g8 g1h1 g8h8 h1g1 h8g8 g1h1 g8h8");
        // One right alone makes the difference.
        String[] rights = {"K", "Q", "k", "q"};
        String[] losing = {"h1g1 e8d8 g1h1 d8e8", "a1b1 e8d8 b1a1 d8e8", "e1d1 h8g8 d1e1 g8h8", "e1d1 a8b8 d1e1 b8a8"};
        for (int i = 0; i < 4; i++) {
            ChessRules x = Due.from("r3k2r/8/8/8/8/8/8/R3K2R w " + rights[i] + " - 0 1");
            Due.play(x, losing[i]);
            due.same("the right " + rights[i] + " is lost", 1, x.occurrence());
            Due.play(x, losing[i]);
            due.same("without " + rights[i] + " twice", 2, x.occurrence());
        }
        occurrence(due, 2, "r3k2r/8/8/8/8/8/8/R3K2R w - - 0 1", "h1g1 h8g8 g1h1 g8h8");
    }

    private static void samePassing(Due due) {
        // A pawn might have taken.
        occurrence(due, 1, Texts.of("Ke1 ke8 pd4 Pe2", "w - - 0 1"), "e2e4 e8e7 e1e2 e7e8 e2e1");
        occurrence(due, 2, Texts.of("Ke1 ke8 pd4 Pe2", "w - - 0 1"), "e2e4 e8e7 e1e2 e7e8 e2e1 e8e7 e1e2 e7e8 e2e1");
        occurrence(due, 1, Texts.of("Ke1 ke8 pf4 Pe2", "w - - 0 1"), "e2e4 e8e7 e1e2 e7e8 e2e1");
        occurrence(due, 1, Texts.of("Ke1 ke8 pd5 Pe5", "w - d6 0 1"), "e1e2 e8e7 e2e1 e7e8");
        // No pawn was there to take, so there was no passed square.
        occurrence(due, 2, Texts.of("Ke1 ke8 pa4 Pe2", "w - - 0 1"), "e2e4 e8e7 e1e2 e7e8 e2e1");
        // The pawn was held, on the rank, the file and the diagonal: it could not take legally.
        occurrence(due, 2, Texts.of("Ke1 ka4 Rh4 pd4 Pe2", "w - - 0 1"), "e2e4 a4a5 e1e2 a5a4 e2e1");
        occurrence(due, 2, Texts.of("Ka1 kd8 Rd1 pd4 Pe2", "w - - 0 1"), "e2e4 d8d7 a1a2 d7d8 a2a1");
        occurrence(due, 2, Texts.of("Kc1 kh8 Ba1 pd4 Pe2", "w - - 0 1"), "e2e4 h8g8 c1b1 g8h8 b1c1");
        occurrence(due, 2, Texts.of("Ke1 kg8 re8 pd5 Pe5", "w - d6 0 1"), "e1f1 g8f8 f1e1 f8g8");
        // Held along the diagonal on which it takes: it could.
        occurrence(due, 1, Texts.of("Ke1 kb6 Bg1 pd4 Pe2", "w - - 0 1"), "e2e4 b6b5 e1e2 b5b6 e2e1");
        // Of two pawns one was held and the other was not, whichever it is.
        occurrence(due, 1, Texts.of("Kc1 kh8 Ba1 pd4 pf4 Pe2", "w - - 0 1"), "e2e4 h8g8 c1b1 g8h8 b1c1");
        occurrence(due, 1, Texts.of("Ka1 kf8 Rf1 pd4 pf4 Pe2", "w - - 0 1"), "e2e4 f8f7 a1a2 f7f8 a2a1");
        // The king was in check, and to take would not have helped.
        occurrence(due, 2, Texts.of("Kh1 kh5 Bd1 pd4 Pe2", "w - - 0 1"), "e2e4 h5g5 d1b3 g5h5 b3d1");
    }

    private static void howOften(Due due) {
        ChessRules x = new ChessRules();
        for (int times = 1; times < 5; times++) {
            due.same("the first position", times, x.occurrence());
            String[] moves = Games.KNIGHTS_TO_AND_FRO.split(" ");
            for (int i = 0; i < 3; i++) {
                Due.play(x, moves[i]);
                due.same("behind " + moves[i], times, x.occurrence());
            }
            Due.play(x, moves[3]);
        }
        due.same("the fifth time", 5, x.occurrence());
        for (int i = 15; i >= 0; i--) {
            x.back();
            due.same("when only " + i + " are left", 1 + i / 4, x.occurrence());
        }
        // Clock and number don't count, nor does what stood in another game.
        ChessRules moved = new ChessRules();
        Due.play(moved, "e2e4 e7e5 " + Games.KNIGHTS_TO_AND_FRO);
        due.same("behind other moves", 2, moved.occurrence());
        Due.load(moved, "rnbqkbnr/pppp1ppp/8/4p3/4P3/8/PPPP1PPP/RNBQKBNR w KQkq - 0 2");
        due.same("in a new game", 1, moved.occurrence());
        // What was taken back stood no more.
        ChessRules back = new ChessRules();
        Due.play(back, "g1f3 g8f6 f3g1 f6g8");
        back.back();
        back.back();
        back.back();
        back.back();
        Due.play(back, Games.KNIGHTS_TO_AND_FRO);
        due.same("played, taken back, played again", 2, back.occurrence());
        // In a full game, 84 moves apart.
        due.same("behind 84 moves", 2, Games.afterRooks(84).occurrence());
        due.same("behind 83 moves", 1, Games.afterRooks(83).occurrence());
        due.same("at the end of 400", 5, Games.fullAndFifthTime().occurrence());
    }

    private static void result(Due due, int want, String text) {
        due.same("result() of " + text, want, Due.from(text).result());
        String turned = Texts.mirrored(text);
        due.same("result() of " + turned, want, Due.from(turned).result());
    }

    private static void resultOf(Due due, int want, String men) {
        result(due, want, Texts.withKings(men, "w - - 0 1"));
        result(due, want, Texts.withKings(men, "b - - 0 1"));
    }

    private static void onlyKings(Due due) {
        result(due, 3, Texts.KINGS);
        result(due, 3, "4k3/8/8/8/8/8/8/4K3 b - - 0 1");
        result(due, 3, "8/8/8/8/8/8/2k5/K7 w - - 0 1");
        for (String man : new String[] {"Pd4", "Rd4", "Qd4", "pd4", "rd4", "qd4"}) {
            resultOf(due, 0, man);
        }
    }

    private static void oneKnight(Due due) {
        for (int square = 0; square < 64; square++) {
            resultOf(due, 3, "N" + Due.name64(square));
            resultOf(due, 3, "n" + Due.name64(square));
        }
        for (String more : new String[] {"Nf4", "nf4", "Be4", "be4", "Bd3", "bd3", "Pe4", "pe4", "Rd3", "rd3", "Qd3", "qd3"}) {
            resultOf(due, 0, "Nd4 " + more);
            resultOf(due, 0, "nd4 " + more);
        }
    }

    private static void bishopsOfOneColour(Due due) {
        for (int one = 0; one < 64; one++) {
            resultOf(due, 3, "B" + Due.name64(one));
            for (int other = one + 1; other < 64; other += 5) {
                boolean same = (one + (one >> 3) + other + (other >> 3)) % 2 == 0;
                resultOf(due, same ? 3 : 0, "B" + Due.name64(one) + " b" + Due.name64(other));
                resultOf(due, same ? 3 : 0, "B" + Due.name64(one) + " B" + Due.name64(other));
            }
        }
        result(due, 3, "2b1k3/3b4/2b5/8/8/8/8/4KB1B w - - 0 1");
        result(due, 3, "4kb2/8/8/8/8/8/8/B1B1K3 b - - 0 1");
        result(due, 0, "2b1k3/3b4/2b5/8/8/8/8/2B1KB1B w - - 0 1");
        for (String more : new String[] {"Nf5", "nf5", "Ph3", "ph3", "Rd5", "rd5", "Qd5", "qd5"}) {
            resultOf(due, 0, "Bd4 " + more);
            resultOf(due, 0, "bd4 " + more);
        }
    }

    private static void goesOn(Due due) {
        result(due, 0, Texts.FIRST);
        result(due, 0, Texts.CASTLES);
        result(due, 0, "4k3/8/8/8/8/8/8/R3K3 w - - 149 1");
        ChessRules x = new ChessRules();
        Due.play(x, "e2e4 e7e5 d1h5 e8e7 h5e5");
        due.same("mate", 1, x.result());
        x.back();
        due.same("it goes on when mate is taken back", 0, x.result());
    }

    private static void mated(Due due) {
        result(due, 1, Texts.MATED);
        result(due, 1, "6rk/5Npp/8/8/8/8/8/6K1 b - - 0 1");
        result(due, 1, "8/8/8/8/8/5k2/6q1/7K w - - 0 1");
        // Another king's square, a shield, a taking: no mate.
        result(due, 0, "R5k1/5p1p/8/8/8/8/8/6K1 b - - 0 1");
        result(due, 0, "R5k1/3r1ppp/8/8/8/8/8/6K1 b - - 0 1");
        result(due, 0, "R5k1/5ppp/8/8/4b3/8/8/6K1 b - - 0 1");
        // To take the passing pawn is the only move.
        result(due, 0, "k1b3r1/8/8/6pP/7K/r7/8/8 w - g6 0 1");
        result(due, 1, "k1b3r1/8/8/6pP/7K/r7/8/8 w - - 0 1");
        // Behind a move.
        ChessRules x = new ChessRules();
        Due.play(x, "f2f3 e7e5 g2g4 d8h4");
        due.same("the fool's mate", 1, x.result());
    }

    private static void stalemate(Due due) {
        result(due, 2, Texts.STALEMATE);
        result(due, 2, "8/8/8/8/8/4k3/4p3/4K3 w - - 0 1");
        result(due, 2, "7k/8/6Q1/8/8/8/8/6K1 b - - 0 1");
        // All other men are blocked or held.
        result(due, 2, "7k/5Q2/8/p7/P7/8/8/6K1 b - - 0 1");
        result(due, 2, "R5bk/8/7K/8/8/8/8/8 b - - 0 1");
        // One pawn may move, or may take on the passed square only.
        result(due, 0, "7k/5Q2/8/8/8/8/p7/6K1 b - - 0 1");
        result(due, 0, "7k/5Q2/8/8/pP6/P7/8/6K1 b - b3 0 1");
        result(due, 2, "7k/5Q2/8/8/p7/P7/8/6K1 b - - 0 1");
        ChessRules x = Due.from("7k/8/8/8/8/8/8/5QK1 w - - 0 1");
        Due.play(x, "f1f7");
        due.same("stalemate behind a move", 2, x.result());
    }

    private static void tooLittle(Due due) {
        ChessRules x = Due.from("4k3/8/8/8/8/8/4p3/4K3 w - - 0 1");
        due.same("before the last pawn is taken", 0, x.result());
        Due.play(x, "e1e2");
        due.same("behind that", 3, x.result());
        x.back();
        due.same("taken back", 0, x.result());
        ChessRules becomes = Due.from("7k/P7/8/8/8/8/8/K7 w - - 0 1");
        int[] results = {3, 3, 0, 0};
        for (int m = 2; m <= 5; m++) {
            becomes.play(Due.move("a7a8") + 4096 * m);
            due.same("a pawn that becomes " + m, results[m - 2], becomes.result());
            becomes.back();
        }
    }

    private static void fifthTime(Due due) {
        ChessRules x = new ChessRules();
        for (int times = 1; times < 5; times++) {
            for (String move : Games.KNIGHTS_TO_AND_FRO.split(" ")) {
                due.same("at time " + times, 0, x.result());
                Due.play(x, move);
            }
        }
        due.same("at the fifth time", 4, x.result());
        x.back();
        due.same("taken back", 0, x.result());
        // Any position counts, not only the first one.
        ChessRules y = new ChessRules();
        Due.play(y, "e2e4 e7e5");
        Games.repeat(y, Games.KNIGHTS_TO_AND_FRO, 4);
        due.same("another position for the fifth time", 4, y.result());
    }

    private static void clockRanOut(Due due) {
        result(due, 0, "4k3/8/8/8/8/8/8/R3K3 w - - 149 1");
        result(due, 5, "4k3/8/8/8/8/8/8/R3K3 w - - 150 1");
        result(due, 5, "4k3/8/8/8/8/8/8/R3K3 w - - 151 1");
        result(due, 5, "4k3/8/8/8/8/8/8/R3K3 w - - 999 1");
        ChessRules x = Games.afterRooks(149);
        due.same("behind 149 moves", 0, x.result());
        due.same("the 150th", 150, x.play(Due.move(Games.rooks(150)[149])));
        due.same("behind 150 moves", 5, x.result());
        x.back();
        Due.play(x, "h7h6");
        due.same("a pawn moved instead", 0, x.result());
    }

    private static void firstThatFits(Due due) {
        result(due, 1, "R5k1/5ppp/8/8/8/8/8/6K1 b - - 150 1");
        result(due, 2, "7k/5Q2/8/8/8/8/8/6K1 b - - 150 1");
        result(due, 2, "k7/8/1K1B4/8/8/8/8/8 b - - 0 1");
        result(due, 2, "k7/8/1K1B4/8/8/8/8/8 b - - 150 1");
        result(due, 3, "4k3/8/8/8/8/8/8/4K3 w - - 150 1");
        result(due, 3, "4k3/8/8/8/8/8/8/4KN2 w - - 999 1");
        ChessRules x = Due.from("r3k3/8/8/8/8/8/8/R3K3 w - - 134 1");
        Games.repeat(x, ROOKS_TO_AND_FRO, 4);
        due.same("the clock", 150, x.about(3));
        due.same("the fifth time and the clock", 4, x.result());
        ChessRules mate = Due.from("6k1/5ppp/8/8/8/8/8/R5K1 w - - 149 1");
        Due.play(mate, "a1a8");
        due.same("mate as the clock comes to 150", 1, mate.result());
    }

    private static void claimsDoNotEnd(Due due) {
        ChessRules x = new ChessRules();
        Games.repeat(x, Games.KNIGHTS_TO_AND_FRO, 2);
        due.same("the third time may be claimed", 1, x.claims());
        due.same("it goes on", 0, x.result());
        due.same("and on", 9, x.play(Due.move("g1f3")));
        ChessRules late = Due.from("r3k3/8/8/8/8/8/8/R3K3 w - - 99 1");
        Due.play(late, "a1b1");
        due.same("the clock may be claimed", 2, late.claims());
        due.same("it goes on", 0, late.result());
        due.same("and on", 2, late.play(Due.move("a8b8")));
        ChessRules both = Due.from("r3k3/8/8/8/8/8/8/R3K3 w - - 100 1");
        Games.repeat(both, ROOKS_TO_AND_FRO, 3);
        due.same("both may be claimed", 3, both.claims());
        due.same("it goes on", 0, both.result());
        due.same("and on", 13, both.play(Due.move("e1e2")));
    }

    private static void claims(Due due, int want, String text) {
        due.same("claims() of " + text, want, Due.from(text).claims());
        due.same("claims() of the same with sides exchanged", want, Due.from(Texts.mirrored(text)).claims());
    }

    private static void thirdTime(Due due) {
        ChessRules x = new ChessRules();
        int[] want = {0, 0, 1, 1, 0};
        for (int times = 1; times <= 5; times++) {
            due.same("claims() at time " + times, want[times - 1], x.claims());
            if (times < 5) {
                Due.play(x, "g1f3");
                due.same("claims() of black at time " + times, want[times - 1], x.claims());
                Due.play(x, "g8f6 f3g1 f6g8");
            }
        }
        x.back();
        due.same("taken back", 1, x.claims());
        ChessRules y = new ChessRules();
        Games.repeat(y, Games.KNIGHTS_TO_AND_FRO, 2);
        Due.play(y, "e2e4");
        due.same("another position", 0, y.claims());
    }

    private static void clockOfHundred(Due due) {
        for (int clock : new int[] {0, 1, 50, 98, 99}) {
            claims(due, 0, "4k3/8/8/8/8/8/8/R3K3 w - - " + clock + " 1");
        }
        for (int clock : new int[] {100, 101, 148, 149}) {
            claims(due, 2, "4k3/8/8/8/8/8/8/R3K3 w - - " + clock + " 1");
        }
        ChessRules x = Games.afterRooks(99);
        due.same("behind 99 moves", 0, x.claims());
        Due.play(x, Games.rooks(100)[99]);
        due.same("behind 100 moves", 2, x.claims());
        Due.play(x, "a2a3");
        due.same("a pawn moved", 0, x.claims());
    }

    private static void bothClaims(Due due) {
        ChessRules x = Due.from("r3k3/8/8/8/8/8/8/R3K3 w - - 92 1");
        Due.play(x, ROOKS_TO_AND_FRO + " a1b1 a8b8 b1a1");
        due.same("one before both", 0, x.claims());
        Due.play(x, "b8a8");
        due.same("both", 3, x.claims());
        ChessRules clockFirst = Due.from("r3k3/8/8/8/8/8/8/R3K3 w - - 93 1");
        Due.play(clockFirst, ROOKS_TO_AND_FRO + " a1b1 a8b8 b1a1");
        due.same("the clock alone", 2, clockFirst.claims());
        Due.play(clockFirst, "b8a8");
        due.same("both", 3, clockFirst.claims());
        ChessRules timesFirst = Due.from("r3k3/8/8/8/8/8/8/R3K3 w - - 91 1");
        Due.play(timesFirst, ROOKS_TO_AND_FRO + " " + ROOKS_TO_AND_FRO);
        due.same("the third time alone", 1, timesFirst.claims());
        Due.play(timesFirst, "a1b1");
        due.same("both", 3, timesFirst.claims());
    }

    private static void nothingToClaim(Due due) {
        claims(due, 0, Texts.FIRST);
        claims(due, 0, Texts.CASTLES);
        ChessRules x = new ChessRules();
        Games.repeat(x, Games.KNIGHTS_TO_AND_FRO, 1);
        due.same("at the second time", 0, x.claims());
    }

    private static void noClaimWhenOver(Due due) {
        claims(due, 0, "R5k1/5ppp/8/8/8/8/8/6K1 b - - 120 1");
        claims(due, 0, "7k/5Q2/8/8/8/8/8/6K1 b - - 120 1");
        claims(due, 0, "4k3/8/8/8/8/8/8/4K3 w - - 120 1");
        claims(due, 0, "4k3/8/8/8/8/8/8/R3K3 w - - 150 1");
        claims(due, 0, "4k3/8/8/8/8/8/8/R3K3 w - - 999 1");
        due.same("at the fifth time", 0, Games.fifthTime().claims());
        ChessRules both = Due.from("r3k3/8/8/8/8/8/8/R3K3 w - - 110 1");
        Games.repeat(both, ROOKS_TO_AND_FRO, 4);
        due.same("at the fifth time with the clock above 100", 0, both.claims());
        due.same("behind 400 moves and the clock", 0, Games.fullAndClockRanOut().claims());
    }
}
