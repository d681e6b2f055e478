/** The sentences of promises 7 to 9, man, about and attackers, and of the terms that they use. */
final class PositionSentences {
    private static final String MAN = "Promise 7: man";
    private static final String ABOUT = "Promise 8: about";
    private static final String ATTACKERS = "Promise 9: attackers";
    private static final String LETTERS = "PNBRQKpnbrqk";
    private static final int[] NUMBERS = {1, 2, 3, 4, 5, 6, 9, 10, 11, 12, 13, 14};
    private static final int[] FAR = {Integer.MIN_VALUE, Integer.MIN_VALUE + 1, -256, -64, -2, -1, 256, 320, 65536,
        Integer.MAX_VALUE - 1, Integer.MAX_VALUE};

    private PositionSentences() {
    }

    static void tell(Sentences s) {
        s.holds(MAN, "The man on a square.", PositionSentences::manOnSquare);
        s.holds(MAN, "IndexOutOfBoundsException when there is no such square.", PositionSentences::manOnNoSquare);
        s.term(MAN, "SQUARES are 0 .. 63: file (0 .. 7 for a .. h) + 8 * rank (0 .. 7 for 1 .. 8).", PositionSentences::squares);
        s.term(MAN, "MEN are 1 pawn, 2 knight, 3 bishop, 4 rook, 5 queen, 6 king, of white", due -> men(due, 0, 6));
        s.term(MAN, "black ones are 8 more", due -> men(due, 6, 12));
        s.term(MAN, "0 is an empty square.", PositionSentences::emptySquares);
        tellAbout(s);
        AttackSentences.tell(s);
        s.holds(ATTACKERS, "IndexOutOfBoundsException when there is no such square or side.", PositionSentences::noSuchSquareOrSide);
    }

    private static void tellAbout(Sentences s) {
        s.holds(ABOUT, "Of the present position:", PositionSentences::ofThePresent);
        s.holds(ABOUT, "what = 0 the side to move", PositionSentences::sideToMove);
        s.holds(ABOUT, "1 the rights", PositionSentences::rights);
        s.holds(ABOUT, "2 the passed square (NONE)", PositionSentences::passedSquare);
        s.holds(ABOUT, "3 the clock", PositionSentences::clock);
        s.holds(ABOUT, "4 the number of the move", PositionSentences::number);
        s.holds(ABOUT, "5: 1 when the side to move is in check, else 0.", PositionSentences::checkOfTheSideToMove);
        s.holds(ABOUT, "IndexOutOfBoundsException for another what.", PositionSentences::anotherWhat);
        s.term(ABOUT, "SIDES: 0 white, 1 black.", PositionSentences::sides);
        s.term(ABOUT, "A POSITION is the men on all squares, the side to MOVE", PositionSentences::sideToMove);
        s.term(ABOUT, "the CASTLING RIGHTS (1 white short, 2 white long, 4 black short, 8 black long, added)", PositionSentences::rights);
        s.term(ABOUT, "the PASSED SQUARE (or none)", PositionSentences::passedSquare);
        s.term(ABOUT, "the CLOCK (how many moves of either side were made since a pawn moved or something was taken)",
                PositionSentences::clockSincePawnOrTaking);
        s.term(ABOUT, "and the NUMBER of the move (1 at first, 1 more behind each move of black).", PositionSentences::numberOfTheMove);
        s.term(ABOUT, "A side is IN CHECK, if its king's square is attacked by the other one.", PositionSentences::inCheck);
    }

    private static void manOnSquare(Due due) {
        String told = "1k1q1q1q/n1n1n1n1/1N1N1N1N/b1b1b1b1/1B1B1B1B/r1r1r1r1/1Q1Q1QQ1/q1q1qBK1";
        ChessRules x = Due.from(told + " b - - 109 910");
        String[] ranks = told.replace("1", ".").split("/");
        for (int square = 0; square < 64; square++) {
            int letter = LETTERS.indexOf(ranks[7 - (square >> 3)].charAt(square & 7));
            due.same("man(" + square + ")", letter < 0 ? 0 : NUMBERS[letter], x.man(square));
        }
        ChessRules moved = new ChessRules();
        Due.play(moved, "g1f3");
        due.same("where the knight was", 0, moved.man(6));
        due.same("where it is", 2, moved.man(21));
        moved.back();
        due.same("where it is again", 2, moved.man(6));
        due.same("where it is no more", 0, moved.man(21));
    }

    private static void manOnNoSquare(Due due) {
        ChessRules x = new ChessRules();
        String before = Due.picture(x);
        for (int square : new int[] {64, 65, 71, 72, 127, 128}) {
            due.outOfBounds("man(" + square + ")", () -> x.man(square));
        }
        for (int square : FAR) {
            due.outOfBounds("man(" + square + ")", () -> x.man(square));
        }
        due.same("man(0), the first square", 4, x.man(0));
        due.same("man(63), the last square", 12, x.man(63));
        due.same("nothing changed", before, Due.picture(x));
    }

    private static void squares(Due due) {
        for (int file = 0; file < 8; file++) {
            for (int rank = 0; rank < 8; rank++) {
                String name = "" + "abcdefgh".charAt(file) + "12345678".charAt(rank);
                ChessRules x = Due.from(Texts.withKings("Q" + name, "w - - 0 1"));
                due.same("the queen on " + name, 5, x.man(file + 8 * rank));
            }
        }
    }

    private static void men(Due due, int first, int end) {
        for (int i = first; i < end; i++) {
            String kings = LETTERS.charAt(i) == 'K' ? "kh8 " : LETTERS.charAt(i) == 'k' ? "Kh8 " : "Ka1 kh8 ";
            String text = Texts.of(kings + LETTERS.charAt(i) + "b5", "w - - 0 1");
            due.same("the man of " + text, NUMBERS[i], Due.from(text).man(33));
        }
    }

    private static void emptySquares(Due due) {
        ChessRules x = Due.from(Texts.KINGS);
        for (int square = 0; square < 64; square++) {
            if (square != 4 && square != 60) {
                due.same("man(" + square + ") where nobody is", 0, x.man(square));
            }
        }
        Due.load(x, Texts.FIRST);
        Due.load(x, Texts.KINGS);
        due.same("nobody is left of the position before", 0, x.man(0));
    }

    private static String about(ChessRules x) {
        StringBuilder told = new StringBuilder();
        for (int what = 0; what < 6; what++) {
            told.append(what == 0 ? "" : " ").append(x.about(what));
        }
        return told.toString();
    }

    private static void ofThePresent(Due due) {
        ChessRules x = new ChessRules();
        due.same("at first", "0 15 -1 0 1 0", about(x));
        Due.load(x, "r3k3/8/8/8/3p4/8/4P3/4K2R w Kq - 44 7");
        due.same("of a text", "0 9 -1 44 7 0", about(x));
        Due.play(x, "e2e4");
        due.same("behind a pawn's two steps", "1 9 20 0 7 0", about(x));
        Due.play(x, "a8a1");
        due.same("behind a check", "0 1 -1 1 8 1", about(x));
        x.back();
        due.same("one taken back", "1 9 20 0 7 0", about(x));
        x.back();
        due.same("both taken back", "0 9 -1 44 7 0", about(x));
        Due.type(x, "7k/8/8/8/8/8/8/K7 b - - 5 6");
        due.same("a text that is not loaded is not the present position", "0 9 -1 44 7 0", about(x));
    }

    private static void sideToMove(Due due) {
        due.same("w", 0, Due.from("4k3/8/8/8/8/8/8/R3K3 w - - 0 1").about(0));
        due.same("b", 1, Due.from("4k3/8/8/8/8/8/8/R3K3 b - - 0 1").about(0));
        ChessRules x = new ChessRules();
        String[] moves = {"e2e4", "e7e5", "g1f3", "b8c6", "f1c4", "f8c5", "e1g1"};
        for (int i = 0; i < moves.length; i++) {
            due.same("before " + moves[i], i % 2, x.about(0));
            Due.play(x, moves[i]);
            due.same("behind " + moves[i], 1 - i % 2, x.about(0));
        }
        x.back();
        due.same("taken back", 0, x.about(0));
    }

    private static void sides(Due due) {
        ChessRules x = Due.from("4k3/8/8/8/8/8/8/R3K3 w - - 0 1");
        due.same("white is to move", 0, x.about(0));
        due.same("white's men attack as side 0", 1L, x.attackers(1, 0));
        due.same("black's men attack as side 1", 1L << 60, x.attackers(61, 1));
    }

    private static void rights(Due due) {
        for (int rights = 0; rights < 16; rights++) {
            StringBuilder told = new StringBuilder();
            for (int i = 0; i < 4; i++) {
                told.append((rights >> i & 1) != 0 ? "" + "KQkq".charAt(i) : "");
            }
            String field = rights == 0 ? "-" : told.toString();
            for (String side : new String[] {"w", "b"}) {
                ChessRules x = Due.from("r3k2r/8/8/8/8/8/8/R3K2R " + side + " " + field + " - 0 1");
                due.same("the rights " + field, rights, x.about(1));
            }
        }
    }

    private static void passedSquare(Due due) {
        due.same("NONE", -1, ChessRules.NONE);
        due.same("none at first", ChessRules.NONE, new ChessRules().about(2));
        for (int file = 0; file < 8; file++) {
            String name = "" + (char) ('a' + file);
            String beside = "" + (char) ('a' + (file == 0 ? 1 : file - 1));
            ChessRules told = Due.from(Texts.of("Kd1 kd8 p" + name + "5 P" + beside + "5", "w - " + name + "6 0 1"));
            due.same("told " + name + "6", 40 + file, told.about(2));
            ChessRules played = Due.from(Texts.of("Kd1 kd8 P" + name + "2 p" + beside + "4", "w - - 0 1"));
            due.same("none before the two steps", ChessRules.NONE, played.about(2));
            Due.play(played, name + "2" + name + "4");
            due.same("played " + name + "3", 16 + file, played.about(2));
            played.back();
            due.same("none when they are taken back", ChessRules.NONE, played.about(2));
        }
    }

    private static void clock(Due due) {
        for (int clock : new int[] {0, 1, 9, 10, 99, 100, 149, 150, 998, 999}) {
            due.same("the clock", clock, Due.from("4k3/8/8/8/8/8/8/R3K3 w - - " + clock + " 7").about(3));
        }
        ChessRules x = Due.from("4k3/8/8/8/8/8/8/R3K3 w - - 148 7");
        Due.play(x, "a1b1 e8d8");
        due.same("the clock is not held at 149", 150, x.about(3));
    }

    private static void clockBehind(Due due, int want, String text, String moves) {
        ChessRules x = Due.from(text);
        Due.play(x, moves);
        due.same("the clock behind " + moves + " of " + text, want, x.about(3));
        for (int i = 0; i < moves.split(" ").length; i++) {
            x.back();
        }
        due.same("the clock when " + moves + " is taken back", Integer.parseInt(text.split(" ")[4]), x.about(3));
    }

    private static void clockSincePawnOrTaking(Due due) {
        clockBehind(due, 1, Texts.FIRST, "g1f3");
        clockBehind(due, 2, Texts.FIRST, "g1f3 g8f6");
        clockBehind(due, 4, Texts.FIRST, "g1f3 g8f6 f3g1 f6g8");
        clockBehind(due, 0, Texts.FIRST, "g1f3 g8f6 e2e3");
        clockBehind(due, 0, Texts.FIRST, "g1f3 g8f6 e2e4");
        clockBehind(due, 0, Texts.FIRST, "g1f3 d7d5");
        clockBehind(due, 1, Texts.FIRST, "g1f3 d7d5 f3g1");
        clockBehind(due, 0, "4k3/8/8/8/8/8/4r3/4K3 w - - 44 7", "e1e2");
        clockBehind(due, 0, "4k3/4R3/8/8/8/8/8/4K3 b - - 44 7", "e8e7");
        clockBehind(due, 0, "4k3/8/8/8/3n4/2P5/8/4K3 w - - 44 7", "c3d4");
        clockBehind(due, 0, "4k3/8/8/3pP3/8/8/8/4K3 w - d6 44 7", "e5d6");
        clockBehind(due, 0, "7k/P7/8/8/8/8/8/K7 w - - 44 7", "a7a8q");
        clockBehind(due, 0, "1r5k/P7/8/8/8/8/8/K7 w - - 44 7", "a7b8n");
        clockBehind(due, 45, "4k3/8/8/8/8/8/8/R3K3 w Q - 44 7", "e1c1");
        clockBehind(due, 45, "4k2r/8/8/8/8/8/8/4K3 b k - 44 7", "e8g8");
        clockBehind(due, 45, "4k3/8/8/8/8/8/8/R3K3 w Q - 44 7", "e1e2");
        clockBehind(due, 45, "4k3/8/8/8/8/8/8/R3K3 w Q - 44 7", "a1a8");
    }

    private static void number(Due due) {
        for (int number : new int[] {1, 2, 9, 10, 99, 100, 998, 999}) {
            due.same("the number", number, Due.from("4k3/8/8/8/8/8/8/R3K3 w - - 0 " + number).about(4));
        }
        ChessRules x = Due.from("4k3/8/8/8/8/8/8/R3K3 b - - 0 999");
        Due.play(x, "e8d8");
        due.same("the number is not held at 999", 1000, x.about(4));
    }

    private static void numberOfTheMove(Due due) {
        ChessRules x = new ChessRules();
        String[] moves = {"e2e4", "e7e5", "g1f3", "b8c6", "f1c4", "f8c5", "e1g1", "g8f6"};
        for (int i = 0; i < moves.length; i++) {
            due.same("the number before " + moves[i], 1 + i / 2, x.about(4));
            Due.play(x, moves[i]);
        }
        due.same("the number behind " + moves.length + " moves", 5, x.about(4));
        for (int i = moves.length - 1; i >= 0; i--) {
            x.back();
            due.same("the number when " + moves[i] + " is taken back", 1 + i / 2, x.about(4));
        }
        ChessRules black = Due.from("4k3/8/8/8/8/8/8/R3K3 b - - 0 7");
        due.same("black begins", 7, black.about(4));
        Due.play(black, "e8d8");
        due.same("behind its move", 8, black.about(4));
        Due.play(black, "a1b1");
        due.same("behind white's move", 8, black.about(4));
    }

    /** Only the other side's king is in check never: the text would have a fault. */
    private static void checkOfTheSideToMove(Due due) {
        due.same("at first", 0, new ChessRules().about(5));
        ChessRules x = Due.from("4k3/8/8/8/8/8/8/R3K3 w - - 0 1");
        due.same("before the check", 0, x.about(5));
        Due.play(x, "a1a8");
        due.same("behind it", 1, x.about(5));
        Due.play(x, "e8d7");
        due.same("the side that gave check is in none", 0, x.about(5));
        x.back();
        due.same("the check again", 1, x.about(5));
        due.same("mated", 1, Due.from(Texts.MATED).about(5));
        due.same("stalemate", 0, Due.from(Texts.STALEMATE).about(5));
        due.same("two checks are told as 1", 1, Due.from("4r1k1/8/8/8/7b/8/8/4K3 w - - 0 1").about(5));
    }

    private static void check(Due due, int want, String men) {
        String text = Texts.of(men, "b - - 0 1");
        due.same("check in " + text, want, Due.from(text).about(5));
        String turned = Texts.mirrored(text);
        due.same("check in " + turned, want, Due.from(turned).about(5));
    }

    private static void inCheck(Due due) {
        for (String man : new String[] {"Pd7", "Pf7", "Nd6", "Nf6", "Nc7", "Ng7", "Bb5", "Bh5", "Ra8", "Re1", "Qe7", "Qa4", "Qh8", "Bd7"}) {
            check(due, 1, "Kc1 ke8 " + man);
        }
        for (String man : new String[] {"Pe7", "Pd6", "Pf6", "Pd5", "Ne6", "Nd8", "Be7", "Bf8", "Rd7", "Rf7", "Qd6", "Qg7"}) {
            check(due, 0, "Kc1 ke8 " + man);
        }
        check(due, 0, "Kc1 ke8 Re1 pe7");
        check(due, 0, "Kc1 ke8 Re1 Pe2");
        check(due, 0, "Kc1 ke8 Ba4 nd7");
        // Its own men give no check; one that is held by its king does.
        check(due, 0, "Kg2 ke8 re1 qa4 nd6 pd7");
        check(due, 1, "Kc1 kh4 Rc4 rc8");
        // A pawn on the far edge gives none.
        check(due, 0, "Kc1 kh8 Pa7");
        check(due, 0, "Kc1 ka8 Ph7");
        check(due, 0, "Kc1 ka8 Ph6");
        check(due, 0, "Ke1 ka4 Nh4 Nh5 Ng3");
        check(due, 0, "Ke1 kh4 Na5 Na6 Nb5");
    }

    private static void anotherWhat(Due due) {
        ChessRules x = new ChessRules();
        Due.play(x, "e2e4");
        String before = Due.picture(x);
        for (int what : new int[] {6, 7, 8, 64}) {
            due.outOfBounds("about(" + what + ")", () -> x.about(what));
        }
        for (int what : FAR) {
            due.outOfBounds("about(" + what + ")", () -> x.about(what));
        }
        due.same("nothing changed", before, Due.picture(x));
    }

    private static void noSuchSquareOrSide(Due due) {
        ChessRules x = new ChessRules();
        String before = Due.picture(x);
        for (int square : FAR) {
            due.outOfBounds("attackers(" + square + ", 0)", () -> x.attackers(square, 0));
            due.outOfBounds("attackers(" + square + ", 1)", () -> x.attackers(square, 1));
            due.outOfBounds("attackers(20, " + square + ")", () -> x.attackers(20, square));
            due.outOfBounds("attackers(" + square + ", " + square + ")", () -> x.attackers(square, square));
        }
        for (int side : new int[] {2, 3, 8, 9, 16}) {
            due.outOfBounds("attackers(20, " + side + ")", () -> x.attackers(20, side));
        }
        for (int square : new int[] {64, 65, 84, 128}) {
            due.outOfBounds("attackers(" + square + ", 0)", () -> x.attackers(square, 0));
            due.outOfBounds("attackers(" + square + ", 1)", () -> x.attackers(square, 1));
        }
        due.same("attackers(0, 0), the first square", 0L, x.attackers(0, 0));
        due.same("attackers(63, 1), the last square", 0L, x.attackers(63, 1));
        due.same("nothing changed", before, Due.picture(x));
    }
}
