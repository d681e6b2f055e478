/** The sentences of promise 4, and of the terms that tell how a text is written and what its faults are. */
final class LoadSentences {
    private static final String LOAD = "Promise 4: load";
    private static final String EMPTY_MEN = "4k3/8/8/8/8/8/8/4K3";
    private static final String HOME_MEN = "r3k2r/8/8/8/8/8/8/R3K2R";

    private LoadSentences() {
    }

    static void tell(Sentences s) {
        s.holds(LOAD, "A new game from the position that the text tells", LoadSentences::newGame);
        s.holds(LOAD, "which is empty then: 0", LoadSentences::textIsEmptyThen);
        s.holds(LOAD, "(OUT stays).", LoadSentences::outStays);
        s.holds(LOAD, "Otherwise the FAULT, and nothing changes (the text neither).", LoadSentences::faultChangesNothing);
        s.term(LOAD, "THE TEXT OF A POSITION has six FIELDS with one space between", LoadSentences::sixFields);
        s.term(LOAD, "the men by ranks from 7 down to 0 with / between", LoadSentences::ranks);
        s.term(LOAD, "each from file 0 on", LoadSentences::files);
        s.term(LOAD, "as P N B R Q K for white and p n b r q k for black", LoadSentences::letters);
        s.term(LOAD, "and digits 1 .. 8 for so many empty squares", LoadSentences::digits);
        s.term(LOAD, "(no two digits one behind the other)", LoadSentences::noTwoDigits);
        s.term(LOAD, "w or b;", LoadSentences::sides);
        s.term(LOAD, "the rights in the order K Q k q, or -", LoadSentences::rights);
        s.term(LOAD, "the passed square (file a .. h, rank 1 .. 8) or -", LoadSentences::passed);
        s.term(LOAD, "the clock, a number 0 .. 999", LoadSentences::clock);
        s.term(LOAD, "the number of the move, 1 .. 999", LoadSentences::number);
        s.term(LOAD, "(numbers without a 0 before another digit).", LoadSentences::noZeroBefore);
        tellFaults(s);
    }

    private static void tellFaults(Sentences s) {
        s.term(LOAD, "FAULTS of a text, the first one counts", LoadSentences::firstFaultCounts);
        s.term(LOAD, "1 it is not written so (each rank has just eight squares)", LoadSentences::eightSquares);
        s.term(LOAD, "2 there is not just one king of each side", LoadSentences::oneKingEach);
        s.term(LOAD, "3 a pawn is on rank 0 or 7", LoadSentences::pawnsOnOuterRanks);
        s.term(LOAD, "4 the side that is not to move is in check", LoadSentences::otherSideInCheck);
        s.term(LOAD, "5 a right whose king or rook is not on its first square", LoadSentences::rightsWithoutMen);
        s.term(LOAD, "6 a passed square that is not empty", LoadSentences::passedNotEmpty);
        s.term(LOAD, "not on rank 5 with white to move (2 with black)", LoadSentences::passedOnWrongRank);
        s.term(LOAD, "without a pawn of the other side in front of it as if it just passed", LoadSentences::nothingPassed);
        s.term(LOAD, "(from an empty square behind it)", LoadSentences::passedFromFullSquare);
        s.term(LOAD, "or that no pawn of the side to move attacks.", LoadSentences::noPawnAttacksPassed);
    }

    private static void newGame(Due due) {
        ChessRules x = new ChessRules();
        Due.play(x, "g1f3 g8f6 f3g1 f6g8 g1f3 g8f6 f3g1 f6g8");
        due.same("the third time", 3, x.occurrence());
        Due.type(x, Texts.FIRST);
        due.same("load()", 0, x.load());
        due.same("a position that stood before is new in a new game", 1, x.occurrence());
        due.same("claims()", 0, x.claims());
        due.wrongState("back() of a new game", () -> x.back());
        due.outOfBounds("played(0) of a new game", () -> x.played(0));
        due.same("the first move of a new game", 1, x.play(Due.move("e2e4")));
        due.same("played(0)", Due.move("e2e4"), x.played(0));
        String told = "r3k3/8/8/8/3pP3/8/8/4K2R b Kq e3 12 34";
        due.same("load() of another position", 0, Due.load(x, told));
        due.same("the position that the text tells", told, Due.written(x));
        nothingIsLeft(due);
    }

    /** One text behind another, with a fault or without: what the second one tells has nothing of the first. */
    private static void nothingIsLeft(Due due) {
        String[] good = {Texts.FIRST, Texts.KINGS, Texts.CASTLES, Texts.MATED, "4k3/8/8/3pP3/8/8/8/4K3 w - d6 0 1",
            "4k3/8/8/3pP3/8/8/8/4K3 w - - 99 7", "r3k3/8/8/8/3pP3/8/8/4K2R b Kq e3 12 34", "r3k3/8/8/8/3pP3/8/8/4K2R b - - 999 999"};
        String[] faulty = {"", "rnbqkbnr", "4k3/8/8/3pP3/8/8/8/4K3 w - d6", "4k3/8/8/3pP3/8/8/8/4K3 w - d6 7",
            "r3k2r/8/8/8/8/8/8/R3K2R b KQkq", "8/8/8/8/8/8/8/8 b - - 5 5", "4k3/8/8/3pP3/8/8/8/4K3 w K d6 7 9",
            "4k3/8/8/3pP3/8/8/8/4K3 w - e6 7 9"};
        int[] faults = {1, 1, 1, 1, 1, 2, 5, 6};
        for (String second : good) {
            for (String first : good) {
                askBehind(due, 0, first, second);
            }
            for (int i = 0; i < faulty.length; i++) {
                askBehind(due, faults[i], faulty[i], second);
            }
        }
    }

    private static void askBehind(Due due, int fault, String first, String second) {
        ChessRules x = new ChessRules();
        due.same("load() of [" + first + "]", fault, Due.load(x, first));
        due.same("load() of " + second + " behind it", 0, Due.load(x, second));
        due.same("as if nothing had been loaded before", Due.picture(Due.from(second)), Due.picture(x));
    }

    private static void textIsEmptyThen(Due due) {
        ChessRules x = new ChessRules();
        Due.type(x, Texts.KINGS);
        due.same("load()", 0, x.load());
        due.textHas(0, x);
        due.same("load() once more", 1, x.load());
        due.same("the position stays", Texts.KINGS, Due.written(x));
        Due.type(x, Texts.FIRST);
        due.textTells(Texts.FIRST, x);
    }

    private static void outStays(Due due) {
        ChessRules x = Due.from(Texts.KINGS);
        due.same("an empty OUT stays empty", 0, x.out(0));
        ChessRules y = new ChessRules();
        int length = y.write();
        Due.load(y, Texts.KINGS);
        for (int i = 0; i < length; i++) {
            due.same("out(" + i + ") behind load()", Texts.FIRST.charAt(i), y.out(i));
        }
        due.same("out behind its end", 0, y.out(length));
    }

    private static void faultChangesNothing(Due due) {
        String[] faulty = {"4k3/8/8/8/8/8/8/4K3 w - - 0 x", "4k3/8/8/8/8/8/8/8 w - - 0 1", "4k3/8/8/8/8/8/8/p3K3 b - - 0 1",
            "4k3/8/8/8/8/8/8/4R1K1 w - - 0 1", "4k3/8/8/8/8/8/8/4K3 b Q - 0 1", "4k3/8/8/8/8/8/8/4K3 b - e3 0 1"};
        for (int fault = 1; fault <= 6; fault++) {
            String bad = faulty[fault - 1];
            ChessRules x = new ChessRules();
            x.write();
            Due.play(x, "e2e4 g8f6 g1f3 f6g8 f3g1");
            due.same("load() of " + bad, fault, Due.load(x, bad));
            due.same("OUT", 'R', x.out(35));
            due.same("the position", "rnbqkbnr/pppppppp/8/8/4P3/8/PPPP1PPP/RNBQKBNR b KQkq - 4 3", Due.written(x));
            due.same("the occurrence", 2, x.occurrence());
            due.same("the first move", Due.move("e2e4"), x.played(0));
            due.same("the last move", Due.move("f3g1"), x.played(4));
            due.textHas(bad.length(), x);
            due.same("load() of the same text again", fault, x.load());
            due.same("the game goes on", 6, x.play(Due.move("e7e5")));
        }
        ChessRules mended = new ChessRules();
        due.same("load() of one character too many", 1, Due.load(mended, Texts.KINGS + "~"));
        mended.cut(Texts.KINGS.length());
        due.textTells(Texts.KINGS, mended);
    }

    private static void sixFields(Due due) {
        String[] fields = {EMPTY_MEN, "w", "-", "-", "0", "1"};
        due.fault(0, String.join(" ", fields));
        due.fault(1, "");
        due.fault(1, " ");
        String told = "";
        for (int i = 0; i < 5; i++) {
            told += (i > 0 ? " " : "") + fields[i];
            due.fault(1, told);
            due.fault(1, told + " ");
        }
        for (int gap = 1; gap < 6; gap++) {
            for (String between : new String[] {"", "  ", "   ", "_", "/", "-", "\u007e", " - "}) {
                String text = fields[0];
                for (int i = 1; i < 6; i++) {
                    text += (i == gap ? between : " ") + fields[i];
                }
                due.fault(1, text);
            }
        }
        String whole = String.join(" ", fields);
        for (String more : new String[] {" ", "  ", " 1", " -", "x", "/", " " + whole}) {
            due.fault(1, whole + more);
        }
        due.fault(1, " " + whole);
        due.fault(1, "- " + whole);
    }

    private static void menFault(Due due, int want, String men) {
        due.fault(want, men + " w - - 0 1");
    }

    private static void ranks(Due due) {
        for (int rank = 0; rank < 8; rank++) {
            int king = rank == 0 ? 7 : 0;
            String[] told = {"8", "8", "8", "8", "8", "8", "8", "8"};
            told[7 - rank] = "N7";
            told[7 - king] = "4K2k";
            ChessRules x = Due.from(String.join("/", told) + " b - - 0 1");
            due.same("the knight on rank " + rank, 2, x.man(8 * rank));
            due.same("the king on rank " + king, 6, x.man(8 * king + 4));
        }
        for (String men : new String[] {"4k3/8/8/8/8/8/4K3", "4k3/8/8/8/8/8/8/8/4K3", "4k3/8/8/8/8/8/8/4K3/", "/4k3/8/8/8/8/8/8/4K3",
            "4k3//8/8/8/8/8/4K3", "4k3//8/8/8/8/8/8/4K3", "4k3/8/8/8/8/8/84K3", "4k38/8/8/8/8/8/4K3", "4k3/8/8/8-8/8/8/4K3",
            "4k3/8/8/8 8/8/8/4K3", "4k3/8/8/8\\8/8/8/4K3", "4k3/8/8/8/ /8/8/4K3", "/", "////////", "8", ""}) {
            menFault(due, 1, men);
        }
    }

    private static void files(Due due) {
        for (int file = 0; file < 8; file++) {
            String rank = (file > 0 ? "" + file : "") + "n" + (file < 7 ? "" + (7 - file) : "");
            ChessRules x = Due.from("4k3/8/8/" + rank + "/8/8/8/4K3 w - - 0 1");
            for (int other = 0; other < 8; other++) {
                due.same("man on file " + other, other == file ? 10 : 0, x.man(32 + other));
            }
        }
    }

    private static void letters(Due due) {
        String letters = "PNBRQKpnbrqk";
        int[] men = {1, 2, 3, 4, 5, 6, 9, 10, 11, 12, 13, 14};
        for (char c = 32; c <= 126; c++) {
            String text = "7k/8/8/8/" + c + "7/8/8/7K w - - 0 1";
            int which = letters.indexOf(c);
            due.fault(which < 0 ? 1 : men[which] % 8 == 6 ? 2 : 0, text);
            if (which >= 0 && men[which] % 8 != 6) {
                due.same("the man " + c, men[which], Due.from(text).man(24));
            }
        }
        ChessRules kings = Due.from("7k/8/8/8/8/8/8/7K w - - 0 1");
        due.same("K", 6, kings.man(7));
        due.same("k", 14, kings.man(63));
    }

    private static void digits(Due due) {
        for (int empty = 1; empty <= 8; empty++) {
            String rank = empty + "N".repeat(8 - empty);
            ChessRules x = Due.from("4k3/8/8/8/8/" + rank + "/8/4K3 b - - 0 1");
            for (int file = 0; file < 8; file++) {
                due.same("file " + file + " of " + rank, file < empty ? 0 : 2, x.man(16 + file));
            }
        }
        for (String rank : new String[] {"0", "9", "0NNNNNNNN", "NNNN0NNNN", "NNNNNNNN0", "N0N6", "9N", "N9"}) {
            menFault(due, 1, "4k3/8/8/8/8/" + rank + "/8/4K3");
        }
    }

    private static void noTwoDigits(Due due) {
        for (int first = 1; first < 8; first++) {
            menFault(due, 1, "4k3/8/8/8/" + first + (8 - first) + "/8/8/4K3");
        }
        for (String rank : new String[] {"11N5", "N16", "61N", "N11N4", "1111N3", "11111111", "44", "12N4"}) {
            menFault(due, 1, "4k3/8/8/" + rank + "/8/8/8/4K3");
        }
        for (String rank : new String[] {"1N1N1N1N", "N1N1N1N1", "1N6", "6N1", "NNNNNNNN"}) {
            menFault(due, 0, "k7/8/8/8/8/8/" + rank + "/4K3");
        }
        menFault(due, 0, "8/8/k7/8/8/8/8/4K3");
    }

    private static void sides(Due due) {
        for (char c = 32; c <= 126; c++) {
            due.fault(c == 'w' || c == 'b' ? 0 : 1, EMPTY_MEN + " " + c + " - - 0 1");
        }
        for (String side : new String[] {"", "ww", "bb", "wb", "bw", "w-", "white"}) {
            due.fault(1, EMPTY_MEN + " " + side + " - - 0 1");
        }
    }

    /** All texts of up to five of these letters: a right is told at most once, and in the order. */
    private static void rights(Due due) {
        String letters = "KQkq-";
        for (int length = 0; length <= 5; length++) {
            int all = (int) Math.pow(letters.length(), length);
            for (int which = 0; which < all; which++) {
                StringBuilder told = new StringBuilder();
                for (int rest = which, i = 0; i < length; i++, rest /= letters.length()) {
                    told.append(letters.charAt(rest % letters.length()));
                }
                askRights(due, told.toString());
            }
        }
        for (String told : new String[] {"x", "KX", "0", "kqKQ", "KQkqk", "KQkqKQkq", "A", "H", "k-", "K Q"}) {
            due.fault(1, HOME_MEN + " w " + told + " - 0 1");
        }
    }

    private static void askRights(Due due, String told) {
        int rights = 0;
        boolean inOrder = !told.isEmpty();
        for (char c : told.toCharArray()) {
            int right = c == '-' ? 0 : 1 << "KQkq".indexOf(c);
            inOrder &= right > rights;
            rights |= right;
        }
        ChessRules x = new ChessRules();
        boolean fits = inOrder || told.equals("-");
        due.same("load() with the rights [" + told + "]", fits ? 0 : 1, Due.load(x, HOME_MEN + " w " + told + " - 0 1"));
        due.same("rights told as [" + told + "]", fits ? rights : 15, x.about(1));
    }

    /** Without pawns a square that is written as it is due is fault 6, another one is fault 1. */
    private static void passed(Due due) {
        for (char file = 32; file <= 126; file++) {
            for (char rank = 32; rank <= 126; rank++) {
                boolean isSquare = file >= 'a' && file <= 'h' && rank >= '1' && rank <= '8';
                due.fault(isSquare ? 6 : 1, EMPTY_MEN + " w - " + file + rank + " 0 1");
            }
            due.fault(file == '-' ? 0 : 1, EMPTY_MEN + " w - " + file + " 0 1");
        }
        for (String told : new String[] {"", "e", "6", "e66", "ee6", "--", "-e6", "e6-", "e6e6", "e 6"}) {
            due.fault(1, EMPTY_MEN + " w - " + told + " 0 1");
        }
        for (char file = 'a'; file <= 'h'; file++) {
            char beside = file == 'h' ? 'g' : (char) (file + 1);
            ChessRules white = Due.from(Texts.of("Ka1 kh8 p" + file + "5 P" + beside + "5", "w - " + file + "6 0 1"));
            due.same("the passed square " + file + "6", 40 + file - 'a', white.about(2));
            ChessRules black = Due.from(Texts.of("Ka1 kh8 P" + file + "4 p" + beside + "4", "b - " + file + "3 0 1"));
            due.same("the passed square " + file + "3", 16 + file - 'a', black.about(2));
        }
        due.same("no passed square", ChessRules.NONE, Due.from(Texts.KINGS).about(2));
    }

    private static void clock(Due due) {
        for (int clock = 0; clock <= 999; clock++) {
            due.same("the clock " + clock, clock, Due.from(EMPTY_MEN + " w - - " + clock + " 1").about(3));
        }
        for (String told : new String[] {"1000", "1001", "9999", "10000", "4294967296", "-1", "-0", "+1", "", "-", "x", "1x", "x1", "1.0",
            "0x1", "1 000", "/", ":", "1/", "1:"}) {
            due.fault(1, EMPTY_MEN + " w - - " + told + " 1");
        }
    }

    private static void number(Due due) {
        for (int number = 1; number <= 999; number++) {
            due.same("the number " + number, number, Due.from(EMPTY_MEN + " w - - 0 " + number).about(4));
        }
        for (String told : new String[] {"0", "1000", "1001", "9999", "10000", "4294967297", "-1", "-0", "+1", "", "-", "x", "1x", "x1",
            "1.0", "0x1", "1 0", "/", ":", "1/", "1:"}) {
            due.fault(1, EMPTY_MEN + " w - - 0 " + told);
        }
    }

    private static void noZeroBefore(Due due) {
        for (String told : new String[] {"00", "01", "09", "000", "001", "010", "099", "0000", "0001"}) {
            due.fault(1, EMPTY_MEN + " w - - " + told + " 1");
            due.fault(1, EMPTY_MEN + " w - - 0 " + told);
        }
        for (String told : new String[] {"10", "100", "101", "900", "990"}) {
            due.fault(0, EMPTY_MEN + " w - - " + told + " " + told);
        }
        due.fault(0, EMPTY_MEN + " w - - 0 1");
    }

    /** Each text has just the two faults that are named, and then one has them all. */
    private static void firstFaultCounts(Due due) {
        due.fault(1, "8/8/8/8/8/8/8/8 w - - 0 0");
        due.fault(1, "P3k3/8/8/8/8/8/8/4K3 w - - 0 0");
        due.fault(1, "4k3/8/8/8/8/8/8/4R1K1 w - - 0 0");
        due.fault(1, "4k3/8/8/8/8/8/8/4K3 w K - 0 0");
        due.fault(1, "4k3/8/8/8/8/8/8/4K3 w - e6 0 0");
        due.fault(2, "P3k3/8/8/8/8/8/8/8 w - - 0 1");
        due.fault(2, "4k3/8/8/8/8/8/8/K3R1K1 w - - 0 1");
        due.fault(2, "4k3/8/8/8/8/8/8/8 w K - 0 1");
        due.fault(2, "4k3/8/8/8/8/8/8/8 w - e6 0 1");
        due.fault(3, "P3k3/8/8/8/8/8/8/4R1K1 w - - 0 1");
        due.fault(3, "P3k3/8/8/8/8/8/8/4K3 w K - 0 1");
        due.fault(3, "P3k3/8/8/8/8/8/8/4K3 w - e6 0 1");
        due.fault(4, "4k3/8/8/8/8/8/8/4R1K1 w K - 0 1");
        due.fault(4, "4k3/8/8/8/8/8/8/4R1K1 w - e6 0 1");
        due.fault(5, "4k3/8/8/8/8/8/8/4K3 w K e6 0 1");
        due.fault(1, "P3k3/8/8/8/8/8/8/K3R1K1 w K e6 0 0");
        due.fault(2, "P3k3/8/8/8/8/8/8/K3R1K1 w K e6 0 1");
        due.fault(3, "P3k3/8/8/8/8/8/8/4R1K1 w K e6 0 1");
        due.fault(4, "4k3/8/8/8/8/8/8/4R1K1 w K e6 0 1");
    }

    private static void eightSquares(Due due) {
        for (int place = 0; place < 8; place++) {
            for (String rank : new String[] {"7", "N6", "6N", "NNNNNNN", "N8", "8N", "NNNNNNNNN", "7NN", "NN7", "1N7", "7N1", "8N8",
                "", "1"}) {
                String[] told = {"8", "8", "8", "8", "8", "8", "8", "8"};
                told[(place + 3) % 8] = "k7";
                told[(place + 6) % 8] = "K7";
                told[place] = rank;
                menFault(due, 1, String.join("/", told));
            }
        }
        // 64 squares in all do not help where one rank has nine.
        menFault(due, 1, "4k3/7/8N/8/8/8/8/4K3");
        menFault(due, 1, "4k4/7/8/8/8/8/8/4K3");
    }

    private static void oneKingEach(Due due) {
        for (String men : new String[] {"8/8/8/8/8/8/8/8", "4k3/8/8/8/8/8/8/8", "8/8/8/8/8/8/8/4K3", "4k3/8/8/8/8/8/8/K6K",
            "k6k/8/8/8/8/8/8/4K3", "k6k/8/8/8/8/8/8/K6K", "8/8/8/8/8/8/8/K6K", "k6k/8/8/8/8/8/8/8", "k2k3k/8/8/8/8/8/8/4K3",
            "4k3/8/8/8/8/8/8/K2K3K", "kkkkkkkk/8/8/8/8/8/8/KKKKKKKK", "QQQQQQQQ/8/8/8/8/8/8/qqqqqqqq"}) {
            due.fault(2, men + " w - - 0 1");
            due.fault(2, men + " b - - 0 1");
        }
        due.fault(0, EMPTY_MEN + " w - - 0 1");
        due.fault(0, "QQQQQQQQ/QQQQQQQQ/8/8/8/7p/K6p/5nbk b - - 0 1");
    }

    private static void pawnsOnOuterRanks(Due due) {
        for (char file = 'a'; file <= 'h'; file++) {
            for (char pawn : new char[] {'P', 'p'}) {
                for (int rank = 1; rank <= 8; rank++) {
                    boolean outer = rank == 1 || rank == 8;
                    // The kings stand where no pawn on this rank attacks them.
                    String kings = rank > 4 ? "Ka1 kh3 " : "Ka6 kh8 ";
                    due.fault(outer ? 3 : 0, Texts.of(kings + pawn + file + rank, "w - - 0 1"));
                }
            }
        }
    }

    /** The mover's king is out of the way; the other one on e8 is attacked by each kind of man in turn. */
    private static void otherSideInCheck(Due due) {
        for (String attacker : new String[] {"Pd7", "Pf7", "Nd6", "Nf6", "Nc7", "Ng7", "Bb5", "Bh5", "Bd7", "Ra8", "Re2", "Rf8",
            "Qe1", "Qh8", "Qa4", "Qd7"}) {
            askCheck(due, 4, Texts.of("Ka1 ke8 " + attacker, "w - - 0 1"));
            askCheck(due, 0, Texts.of("Ka1 ke8 " + attacker, "b - - 0 1"));
        }
        for (String harmless : new String[] {"Pe7", "Pd6", "Pc7", "Ne6", "Be7", "Rd7", "Bd8", "Qd6"}) {
            askCheck(due, 0, Texts.of("Ka1 ke8 " + harmless, "w - - 0 1"));
        }
        for (String beside : new String[] {"Kd7", "Ke7", "Kf7", "Kd8", "Kf8"}) {
            askCheck(due, 4, Texts.of(beside + " ke8", "w - - 0 1"));
            askCheck(due, 4, Texts.of(beside + " ke8", "b - - 0 1"));
        }
        askCheck(due, 0, Texts.of("Ka1 ke8 Re1 pe7", "w - - 0 1"));
        askCheck(due, 0, Texts.of("Ka1 ke8 Re1 Pe2", "w - - 0 1"));
        // Both are in check, and a man that must not leave its king's line gives check all the same.
        askCheck(due, 4, Texts.of("Ka1 ke8 Re1 ra8", "w - - 0 1"));
        askCheck(due, 4, Texts.of("Ke1 ka4 Re4 re8", "w - - 0 1"));
    }

    private static void askCheck(Due due, int want, String text) {
        due.fault(want, text);
        due.fault(want, Texts.mirrored(text));
    }

    private static void rightsWithoutMen(Due due) {
        String[] rights = {"K", "Q", "k", "q"};
        String[] kings = {"Ke1", "Ke1", "ke8", "ke8"};
        String[] rooks = {"Rh1", "Ra1", "rh8", "ra8"};
        for (int i = 0; i < 4; i++) {
            String others = i < 2 ? " kc5 " : " Kc4 ";
            String rest = (i < 2 ? "w " : "b ") + rights[i] + " - 0 1";
            String square = rooks[i].substring(1);
            due.fault(0, Texts.of(kings[i] + " " + rooks[i] + others, rest));
            due.fault(5, Texts.of(kings[i] + others, rest));
            for (char man : "BNQbnq".toCharArray()) {
                due.fault(5, Texts.of(kings[i] + " " + man + square + " " + (i < 2 ? "Nf1 Nd1" : "nf8 nd8") + others, rest));
            }
            String otherRook = (i < 2 ? "r" : "R") + square + (i < 2 ? " Nf1 Nd1" : " nf8 nd8");
            due.fault(5, Texts.of(kings[i] + " " + otherRook + others, rest));
            for (String file : new String[] {"d", "f", "c", "g", "b"}) {
                String king = kings[i].charAt(0) + file + kings[i].charAt(2);
                due.fault(5, Texts.of(king + " " + rooks[i] + others, rest));
            }
            // A rook beside its first square, and the other side's men at home, do not help.
            String nextTo = rooks[i].charAt(0) + (square.charAt(0) == 'h' ? "g" : "b") + square.charAt(1);
            due.fault(5, Texts.of(kings[i] + " " + nextTo + others, rest));
            due.fault(5, Texts.of("Ke1 ke8 Rh1 Ra1 rh8 ra8 ".replace(rooks[i] + " ", ""), rest));
        }
        due.fault(5, "r3k2r/8/8/8/8/8/8/R3K3 w KQkq - 0 1");
        due.fault(5, "r3k2r/8/8/8/8/8/8/4K2R w KQkq - 0 1");
        due.fault(5, "r3k3/8/8/8/8/8/8/R3K2R w KQkq - 0 1");
        due.fault(5, "4k2r/8/8/8/8/8/8/R3K2R w KQkq - 0 1");
        due.fault(0, "r3k2r/8/8/8/8/8/8/R3K2R b KQkq - 0 1");
    }

    /** Asked with white to move and, turned round, with black to move. */
    private static void passedFault(Due due, int want, String men, String passed) {
        String text = Texts.of(men, "w - " + passed + " 0 1");
        due.fault(want, text);
        due.fault(want, Texts.mirrored(text));
    }

    private static void passedNotEmpty(Due due) {
        passedFault(due, 0, "Ka1 kh8 pd5 Pe5", "d6");
        for (char man : "PNBRQpnbrq".toCharArray()) {
            passedFault(due, 6, "Ka1 kh8 pd5 Pe5 " + man + "d6", "d6");
        }
        passedFault(due, 6, "Kd6 kh8 pd5 Pe5", "d6");
    }

    private static void passedOnWrongRank(Due due) {
        // On each rank but one all else is as if a black pawn had just passed.
        for (int rank = 1; rank <= 8; rank++) {
            String men = "Ka1 kh8" + (rank > 2 ? " pd" + (rank - 1) + " Pe" + (rank - 1) : "");
            passedFault(due, rank == 6 ? 0 : 6, men, "d" + rank);
        }
        // The square of the other side's turn.
        passedFault(due, 6, "Ka1 kh8 Pd4 pe4", "d3");
        passedFault(due, 6, "Ka1 kh8 pd5 Pe5 Pd4 pe4", "d3");
        for (int square = 0; square < 64; square++) {
            passedFault(due, 6, "Kb1 kg8", Due.name64(square));
        }
    }

    private static void nothingPassed(Due due) {
        passedFault(due, 0, "Ka1 kh8 pd5 Pe5", "d6");
        passedFault(due, 6, "Ka1 kh8 Pe5", "d6");
        for (char man : "PNBRQnbrq".toCharArray()) {
            passedFault(due, 6, "Ka1 kh7 Pe5 " + man + "d5", "d6");
        }
        passedFault(due, 6, "Ka1 kd5 Pe5", "d6");
        // The pawn must be in front of it, not beside that square or behind it.
        passedFault(due, 6, "Ka1 kh8 pc5 Pe5", "d6");
        passedFault(due, 6, "Ka1 kh8 pd4 Pe5", "d6");
        passedFault(due, 6, "Ka1 kh8 pd7 Pe5", "d6");
    }

    private static void passedFromFullSquare(Due due) {
        for (char man : "PNBRQpnbrq".toCharArray()) {
            passedFault(due, 6, "Ka1 kh8 pd5 Pe5 " + man + "d7", "d6");
        }
        passedFault(due, 6, "Ka1 kd7 pd5 Pe5", "d6");
        // Behind that, and beside it, men may stand.
        passedFault(due, 0, "Ka1 kh8 pd5 Pe5 nd8 pc7 pe7", "d6");
    }

    private static void noPawnAttacksPassed(Due due) {
        passedFault(due, 0, "Ka1 kh8 pd5 Pc5", "d6");
        passedFault(due, 0, "Ka1 kh8 pd5 Pc5 Pe5", "d6");
        passedFault(due, 6, "Ka1 kh8 pd5", "d6");
        passedFault(due, 6, "Ka1 kh8 pd5 Pb5", "d6");
        passedFault(due, 6, "Ka1 kh8 pd5 Pe4", "d6");
        passedFault(due, 6, "Ka1 kh8 pd5 Pe6", "d6");
        passedFault(due, 6, "Ka1 kh8 pd5 Pe7", "d6");
        passedFault(due, 6, "Ka1 kh8 pd5 pe5", "d6");
        passedFault(due, 6, "Ka1 kh8 pd5 pe7", "d6");
        for (char man : "NBRQ".toCharArray()) {
            passedFault(due, 6, "Ka1 kg8 pd5 " + man + "e5", "d6");
        }
        passedFault(due, 6, "Ke5 kh8 pd5", "d6");
        // No pawn of the far edge attacks over the board's edge.
        passedFault(due, 6, "Kc1 kc8 ph5 Pa5", "h6");
        passedFault(due, 6, "Kc1 kc8 ph5 Pa6", "h6");
        passedFault(due, 6, "Kc1 kc8 pa5 Ph5", "a6");
        passedFault(due, 6, "Kc1 kc8 pa5 Ph4", "a6");
        // A pawn that must not take because of its king attacks all the same.
        passedFault(due, 0, "Ke1 kg8 re8 pd5 Pe5", "d6");
        passedFault(due, 0, "Ka5 kg8 rh5 pd5 Pe5", "d6");
    }
}
