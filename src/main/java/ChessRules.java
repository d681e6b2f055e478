/** The laws of chess: one game, from the usual first position or from one that a text tells. */
public final class ChessRules {
    public static final int NONE = -1;

    private static final int SQUARES = 64;
    private static final int EMPTY = 0;
    private static final int PAWN = 1;
    private static final int KNIGHT = 2;
    private static final int BISHOP = 3;
    private static final int ROOK = 4;
    private static final int QUEEN = 5;
    private static final int KING = 6;
    private static final int WHITE = 0;
    private static final int BLACK = 1;
    private static final int SHORT = 0;
    private static final int LONG = 1;

    private static final int LINE_LIMIT = 100;
    private static final int GAME_LIMIT = 400;
    private static final int DEPTH_LIMIT = 3;
    private static final int NUMBER_LIMIT = 999;

    /** The letter of each man stands at the place that is the man's number. */
    private static final String MEN_LETTERS = " PNBRQK  pnbrqk";
    private static final String SIDE_LETTERS = "wb";
    private static final String RIGHTS_LETTERS = "KQkq";
    private static final String FIRST_POSITION = "rnbqkbnr/pppppppp/8/8/8/8/PPPPPPPP/RNBQKBNR w KQkq - 0 1";

    private static final int GOES_ON = 0;
    private static final int MATE = 1;
    private static final int STALEMATE = 2;
    private static final int TOO_LITTLE = 3;
    private static final int FIFTH_TIME = 4;
    private static final int CLOCK_RAN_OUT = 5;

    private final Reader reader = new Reader();
    private final Line written = new Line();
    private final Game game = new Game();

    public ChessRules() {
        for (int i = 0; i < FIRST_POSITION.length(); i++) {
            reader.text.add(FIRST_POSITION.charAt(i));
        }
        reader.findFault();
        game.begin(reader.position);
        reader.text.shorten(0);
    }

    public boolean type(long w, int n) {
        Line text = reader.text;
        if (n < 1 || n > 8 || n > LINE_LIMIT - text.length) {
            return false;
        }
        for (int i = 0; i < n; i++) {
            int c = byteOf(w, i);
            if (c < 32 || c > 126) {
                return false;
            }
        }
        for (int i = 0; i < n; i++) {
            text.add(byteOf(w, i));
        }
        return true;
    }

    public boolean cut(int n) {
        if (n < 0 || n > reader.text.length) {
            return false;
        }
        reader.text.shorten(n);
        return true;
    }

    public int load() {
        int fault = reader.findFault();
        if (fault == 0) {
            game.begin(reader.position);
            reader.text.shorten(0);
        }
        return fault;
    }

    public int write() {
        Writer.tell(game.present, written);
        return written.length;
    }

    public int out(int i) {
        return written.at(i);
    }

    public int man(int square) throws IndexOutOfBoundsException {
        if (!isSquare(square)) {
            throw new IndexOutOfBoundsException("no such square");
        }
        return game.present.board.manAt(square);
    }

    public int about(int what) throws IndexOutOfBoundsException {
        Position present = game.present;
        switch (what) {
            case 0: return present.side;
            case 1: return present.rights;
            case 2: return present.passed;
            case 3: return present.clock;
            case 4: return present.number;
            case 5: return present.isInCheck() ? 1 : 0;
            default: throw new IndexOutOfBoundsException("nothing is told of this");
        }
    }

    public long attackers(int square, int side) throws IndexOutOfBoundsException {
        if (!isSquare(square) || (side != WHITE && side != BLACK)) {
            throw new IndexOutOfBoundsException("no such square or side");
        }
        Board board = game.present.board;
        return board.attackersOf(1L << square, side, board.empty());
    }

    public int moves() {
        return game.present.countMoves();
    }

    public int move(int k) throws IndexOutOfBoundsException {
        int found = k < 0 ? NONE : game.present.moveInOrder(k);
        if (found == NONE) {
            throw new IndexOutOfBoundsException("no such move");
        }
        return found;
    }

    public int play(int move) throws IllegalArgumentException, IllegalStateException, UnsupportedOperationException {
        if (!game.present.isLegal(move)) {
            throw new IllegalArgumentException("the move is not legal");
        }
        if (game.endByItself() != GOES_ON) {
            throw new IllegalStateException("the game is over");
        }
        if (game.count >= GAME_LIMIT) {
            throw new UnsupportedOperationException("the game is too long");
        }
        game.advance(move);
        return game.count;
    }

    public int back() throws IllegalStateException {
        if (game.count == 0) {
            throw new IllegalStateException("no move was played");
        }
        game.retreat();
        return game.count;
    }

    public int played(int i) throws IndexOutOfBoundsException {
        if (i < 0 || i >= game.count || i >= GAME_LIMIT) {
            throw new IndexOutOfBoundsException("no such move was played");
        }
        return game.told[i];
    }

    public int occurrence() {
        return game.timesStood();
    }

    public int result() {
        if (game.present.hasMove()) {
            return game.endByItself();
        }
        return game.present.isInCheck() ? MATE : STALEMATE;
    }

    public int claims() {
        if (!game.present.hasMove() || game.endByItself() != GOES_ON) {
            return 0;
        }
        return (game.timesStood() >= 3 ? 1 : 0) + (game.present.clock >= 100 ? 2 : 0);
    }

    public long ways(int depth) throws IllegalArgumentException {
        if (depth < 0 || depth > DEPTH_LIMIT) {
            throw new IllegalArgumentException("the depth is not 0 .. 3");
        }
        return Ways.count(game.present, depth);
    }

    private static int byteOf(long w, int i) {
        return (int) (w >>> (8 * i)) & 255;
    }

    private static boolean isSquare(int square) {
        return square >= 0 && square < SQUARES;
    }

    /** What a pawn's step adds to its square. */
    private static int stepOf(int side) {
        return side == WHITE ? 8 : -8;
    }

    private static int lowestSquare(long set) {
        return Long.bitCount((set & -set) - 1);
    }

    private static boolean holds(long set, int square) {
        return (set >>> square & 1) != 0;
    }

    /** A row of characters that never grows beyond its limit. */
    private static final class Line {
        private final char[] characters = new char[LINE_LIMIT];
        private int length = 0;

        private void add(int c) {
            if (length >= 0 && length < LINE_LIMIT) {
                characters[length] = (char) c;
                length++;
            }
        }

        private void shorten(int n) {
            if (n >= 0 && n <= length) {
                length = n;
            }
        }

        /** 0 where there is no character: no text holds one that is 0. */
        private int at(int i) {
            return i >= 0 && i < length && i < LINE_LIMIT ? characters[i] : 0;
        }
    }

    /** What men reach by their ways of moving. A set of squares is a long: bit s for square s. */
    private static final class Reach {
        private static final long NOT_A = 0xFEFEFEFEFEFEFEFEL;
        private static final long NOT_H = 0x7F7F7F7F7F7F7F7FL;
        private static final long NOT_AB = 0xFCFCFCFCFCFCFCFCL;
        private static final long NOT_GH = 0x3F3F3F3F3F3F3F3FL;
        private static final long ALL = -1L;

        /** Directions below this one are the rook's, those from it on the bishop's. */
        private static final int FIRST_DIAGONAL = 4;
        private static final int DIRECTIONS = 8;
        private static final int[] SHIFTS = {1, -1, 8, -8, 9, 7, -7, -9};
        /** A step sideways from the other squares would come out on the other edge of the board. */
        private static final long[] STARTS = {NOT_H, NOT_A, ALL, ALL, NOT_H, NOT_A, NOT_H, NOT_A};

        private static long ahead(long from, int side) {
            return side == WHITE ? from << 8 : from >>> 8;
        }

        private static long byPawn(long from, int side) {
            long beside = (from & NOT_H) << 1 | (from & NOT_A) >>> 1;
            return side == WHITE ? beside << 8 : beside >>> 8;
        }

        private static long byKnight(long from) {
            long up = (from & NOT_H) << 17 | (from & NOT_A) << 15 | (from & NOT_GH) << 10 | (from & NOT_AB) << 6;
            long down = (from & NOT_A) >>> 17 | (from & NOT_H) >>> 15 | (from & NOT_AB) >>> 10 | (from & NOT_GH) >>> 6;
            return up | down;
        }

        private static long byKing(long from) {
            long row = from | (from & NOT_H) << 1 | (from & NOT_A) >>> 1;
            return (row | row << 8 | row >>> 8) & ~from;
        }

        /** Over empty squares up to the first one that is not, which is reached too. */
        private static long along(int direction, long from, long empty) {
            if (direction < 0 || direction >= DIRECTIONS) {
                return 0;
            }
            int shift = SHIFTS[direction];
            long front = from;
            long reached = 0;
            for (int step = 0; step < 7 && front != 0; step++) {
                front &= STARTS[direction];
                front = shift > 0 ? front << shift : front >>> -shift;
                reached |= front;
                front &= empty;
            }
            return reached;
        }

        private static long byLines(int kind, long from, long empty) {
            int first = kind == BISHOP ? FIRST_DIAGONAL : 0;
            int end = kind == ROOK ? FIRST_DIAGONAL : DIRECTIONS;
            long reached = 0;
            for (int direction = first; direction < end; direction++) {
                reached |= along(direction, from, empty);
            }
            return reached;
        }
    }

    /** Where the men stand, and what they attack. */
    private static final class Board {
        private static final long LIGHT_SQUARES = 0x55AA55AA55AA55AAL;

        /** The same men twice: by squares to look one up, and as sets to reckon with many at once. */
        private final int[] men = new int[SQUARES];
        private final long[] sets = new long[16];

        private Board() {
            sets[EMPTY] = -1L;
        }

        private int manAt(int square) {
            return isSquare(square) ? men[square] : EMPTY;
        }

        private boolean isFree(int square) {
            return manAt(square) == EMPTY;
        }

        private void put(int square, int man) {
            if (isSquare(square)) {
                long here = 1L << square;
                sets[men[square] & 15] &= ~here;
                men[square] = man & 15;
                sets[man & 15] |= here;
            }
        }

        private long empty() {
            return sets[EMPTY];
        }

        private long setOf(int kind, int side) {
            return sets[(kind + 8 * side) & 15];
        }

        private long bothOf(int kind) {
            return setOf(kind, WHITE) | setOf(kind, BLACK);
        }

        private long allOf(int side) {
            long all = 0;
            for (int kind = PAWN; kind <= KING; kind++) {
                all |= sets[(kind + 8 * side) & 15];
            }
            return all;
        }

        /**
         * Looks outwards from the square: what a man would reach from there, reaches it too. The
         * empty squares are told, so that a move can be tried without being made.
         */
        private long attackersOf(long square, int side, long empty) {
            long straight = setOf(QUEEN, side) | setOf(ROOK, side);
            long diagonal = setOf(QUEEN, side) | setOf(BISHOP, side);
            long found = Reach.byPawn(square, 1 - side) & setOf(PAWN, side)
                    | Reach.byKnight(square) & setOf(KNIGHT, side)
                    | Reach.byKing(square) & setOf(KING, side);
            for (int direction = 0; direction < Reach.DIRECTIONS; direction++) {
                long dangerous = direction < Reach.FIRST_DIAGONAL ? straight : diagonal;
                found |= Reach.along(direction, square, empty) & dangerous;
            }
            return found;
        }

        private boolean isInCheck(int side) {
            return attackersOf(setOf(KING, side), 1 - side, empty()) != 0;
        }

        /** The men of a side that alone stand between their king and one that would attack it. */
        private long shieldsOf(int side) {
            long king = setOf(KING, side);
            long own = allOf(side);
            long found = 0;
            for (int direction = 0; direction < Reach.DIRECTIONS; direction++) {
                int kind = direction < Reach.FIRST_DIAGONAL ? ROOK : BISHOP;
                long dangerous = setOf(QUEEN, 1 - side) | setOf(kind, 1 - side);
                long shield = Reach.along(direction, king, empty()) & own;
                if ((Reach.along(direction, shield, empty()) & dangerous) != 0) {
                    found |= shield;
                }
            }
            return found;
        }

        private boolean hasTooLittle() {
            if ((bothOf(PAWN) | bothOf(ROOK) | bothOf(QUEEN)) != 0) {
                return false;
            }
            long bishops = bothOf(BISHOP);
            int knights = Long.bitCount(bothOf(KNIGHT));
            if (knights > 0) {
                return knights == 1 && bishops == 0;
            }
            return (bishops & LIGHT_SQUARES) == 0 || (bishops & ~LIGHT_SQUARES) == 0;
        }

        /** Four such sets, one for each bit of a man's number, tell all men in little room. */
        private long squaresWithBit(int bit) {
            long found = 0;
            for (int man = 1; man < 16; man++) {
                if ((man >> bit & 1) != 0) {
                    found |= sets[man];
                }
            }
            return found;
        }
    }

    /** A position, and the moves that it allows. */
    private static final class Position {
        private static final long WHITE_SINGLE_STEPS = 0x0000000000FF0000L;
        private static final long BLACK_SINGLE_STEPS = 0x0000FF0000000000L;

        private final Board board = new Board();
        private int side = WHITE;
        private int rights = 0;
        private int passed = NONE;
        private int clock = 0;
        private int number = 1;

        private void clear() {
            for (int square = 0; square < SQUARES; square++) {
                board.put(square, EMPTY);
            }
            side = WHITE;
            rights = 0;
            passed = NONE;
            clock = 0;
            number = 1;
        }

        private void copy(Position other) {
            for (int square = 0; square < SQUARES; square++) {
                board.put(square, other.board.manAt(square));
            }
            side = other.side;
            rights = other.rights;
            passed = other.passed;
            clock = other.clock;
            number = other.number;
        }

        private boolean isInCheck() {
            return board.isInCheck(side);
        }

        private boolean hasRight(int ofSide, int wing) {
            return (rights >> (2 * ofSide + wing) & 1) != 0;
        }

        private static int kingHome(int ofSide) {
            return 4 + 56 * ofSide;
        }

        private static int rookHome(int ofSide, int wing) {
            return (wing == SHORT ? 7 : 0) + 56 * ofSide;
        }

        private long passedSet() {
            return passed == NONE ? 0 : 1L << passed;
        }

        private long pawnsThatAttackPassed() {
            return Reach.byPawn(passedSet(), 1 - side) & board.setOf(PAWN, side);
        }

        /** The one that pawns may take on legally: only this one makes positions differ. */
        private int passedThatCounts() {
            long takers = pawnsThatAttackPassed();
            for (int n = 0; n < 2 && takers != 0; n++) {
                if (keepsKingSafe(lowestSquare(takers), passed)) {
                    return passed;
                }
                takers &= takers - 1;
            }
            return NONE;
        }

        /** Where the man there may go, but for castling, whatever comes of its king. */
        private long targetsFrom(int square) {
            int man = board.manAt(square);
            if (man == EMPTY || man >> 3 != side) {
                return 0;
            }
            long from = 1L << square;
            switch (man & 7) {
                case PAWN: return pawnTargets(from);
                case KNIGHT: return Reach.byKnight(from) & ~board.allOf(side);
                case KING: return Reach.byKing(from) & ~board.allOf(side);
                default: return Reach.byLines(man & 7, from, board.empty()) & ~board.allOf(side);
            }
        }

        private long pawnTargets(long from) {
            long singleSteps = side == WHITE ? WHITE_SINGLE_STEPS : BLACK_SINGLE_STEPS;
            long one = Reach.ahead(from, side) & board.empty();
            long two = Reach.ahead(one & singleSteps, side) & board.empty();
            long taking = Reach.byPawn(from, side) & (board.allOf(1 - side) | passedSet());
            return one | two | taking;
        }

        /** A right is there only while its king and rook stand on their first squares. */
        private long castlingTargets() {
            int king = kingHome(side);
            long targets = 0;
            if (hasRight(side, SHORT) && board.isFree(king + 1) && board.isFree(king + 2)
                    && !isAttacked(king) && !isAttacked(king + 1)) {
                targets |= 1L << (king + 2);
            }
            if (hasRight(side, LONG) && board.isFree(king - 1) && board.isFree(king - 2) && board.isFree(king - 3)
                    && !isAttacked(king) && !isAttacked(king - 1)) {
                targets |= 1L << (king - 2);
            }
            return targets;
        }

        private boolean isAttacked(int square) {
            return board.attackersOf(1L << square, 1 - side, board.empty()) != 0;
        }

        /**
         * The men whose moves might leave their king in check. All moves of the others are legal
         * without a trial, which makes it cheap to count many.
         */
        private long exposed() {
            if (board.isInCheck(side)) {
                return board.allOf(side);
            }
            return board.setOf(KING, side) | board.shieldsOf(side) | pawnsThatAttackPassed();
        }

        private long legalTargets(int from, long exposed) {
            long targets = targetsFrom(from);
            if (!holds(exposed, from)) {
                return targets;
            }
            if (board.manAt(from) == KING + 8 * side) {
                targets |= castlingTargets();
            }
            long legal = 0;
            for (int n = 0; n < SQUARES && targets != 0; n++) {
                int to = lowestSquare(targets);
                if (keepsKingSafe(from, to)) {
                    legal |= 1L << to;
                }
                targets &= targets - 1;
            }
            return legal;
        }

        /**
         * Tries a move without making it. A rook that castles may stay where it is for that: behind
         * its first square the board ends, and where it comes to, it could only shield its king from
         * a man that gave check before.
         */
        private boolean keepsKingSafe(int from, int to) {
            int man = board.manAt(from);
            long taken = 1L << squareOfTaken(man, to);
            long empty = (board.empty() | 1L << from | taken) & ~(1L << to);
            long king = (man & 7) == KING ? 1L << to : board.setOf(KING, side);
            return (board.attackersOf(king, 1 - side, empty) & ~taken) == 0;
        }

        private int squareOfTaken(int man, int to) {
            boolean takesPassed = (man & 7) == PAWN && to == passed;
            return takesPassed ? to - stepOf(side) : to;
        }

        private boolean becomesAnother(int from) {
            int lastButOne = side == WHITE ? 6 : 1;
            return board.manAt(from) == PAWN + 8 * side && from >> 3 == lastButOne;
        }

        private int movesToOneTarget(int from) {
            return becomesAnother(from) ? QUEEN - KNIGHT + 1 : 1;
        }

        private int countMoves() {
            long exposed = exposed();
            long left = board.allOf(side);
            int count = 0;
            for (int n = 0; n < SQUARES && left != 0; n++) {
                int from = lowestSquare(left);
                count += Long.bitCount(legalTargets(from, exposed)) * movesToOneTarget(from);
                left &= left - 1;
            }
            return count;
        }

        private boolean hasMove() {
            long exposed = exposed();
            long left = board.allOf(side);
            for (int n = 0; n < SQUARES && left != 0; n++) {
                if (legalTargets(lowestSquare(left), exposed) != 0) {
                    return true;
                }
                left &= left - 1;
            }
            return false;
        }

        private int moveInOrder(int k) {
            long exposed = exposed();
            long left = board.allOf(side);
            int before = 0;
            for (int n = 0; n < SQUARES && left != 0; n++) {
                int from = lowestSquare(left);
                long targets = legalTargets(from, exposed);
                int here = Long.bitCount(targets) * movesToOneTarget(from);
                if (k < before + here) {
                    return moveOfMan(from, targets, k - before);
                }
                before += here;
                left &= left - 1;
            }
            return NONE;
        }

        private int moveOfMan(int from, long targets, int k) {
            int skipped = becomesAnother(from) ? k / 4 : k;
            int becomes = becomesAnother(from) ? KNIGHT + k % 4 : EMPTY;
            long left = targets;
            for (int n = 0; n < skipped; n++) {
                left &= left - 1;
            }
            return from + 64 * lowestSquare(left) + 4096 * becomes;
        }

        private boolean isLegal(int move) {
            int from = move & 63;
            int to = move >> 6 & 63;
            int becomes = move >> 12;
            boolean fits = becomesAnother(from) ? becomes >= KNIGHT && becomes <= QUEEN : becomes == EMPTY;
            return fits && holds(legalTargets(from, exposed()), to);
        }

        /** Makes a move and answers what unmake must know beside the move. */
        private int make(int move) {
            int from = move & 63;
            int to = move >> 6 & 63;
            int becomes = move >> 12;
            int man = board.manAt(from);
            int takenAt = squareOfTaken(man, to);
            int taken = board.manAt(takenAt);
            int memory = taken + 16 * rights + 256 * (passed + 1) + 32768 * clock;
            board.put(takenAt, EMPTY);
            board.put(from, EMPTY);
            board.put(to, becomes == EMPTY ? man : becomes + 8 * side);
            if (isCastling(man, from, to)) {
                board.put(rookHome(side, to > from ? SHORT : LONG), EMPTY);
                board.put((from + to) / 2, ROOK + 8 * side);
            }
            rights &= ~(rightsBoundTo(from) | rightsBoundTo(to));
            passed = squarePassed(man, from, to);
            clock = (man & 7) == PAWN || taken != EMPTY ? 0 : clock + 1;
            number += side;
            side = 1 - side;
            return memory;
        }

        private void unmake(int move, int memory) {
            int from = move & 63;
            int to = move >> 6 & 63;
            int becomes = move >> 12;
            side = 1 - side;
            number -= side;
            clock = memory >> 15;
            passed = (memory >> 8 & 127) - 1;
            rights = memory >> 4 & 15;
            int man = becomes == EMPTY ? board.manAt(to) : PAWN + 8 * side;
            if (isCastling(man, from, to)) {
                board.put((from + to) / 2, EMPTY);
                board.put(rookHome(side, to > from ? SHORT : LONG), ROOK + 8 * side);
            }
            board.put(to, EMPTY);
            board.put(from, man);
            board.put(squareOfTaken(man, to), memory & 15);
        }

        private static boolean isCastling(int man, int from, int to) {
            return (man & 7) == KING && Math.abs(to - from) == 2;
        }

        private int squarePassed(int man, int from, int to) {
            if ((man & 7) != PAWN || Math.abs(to - from) != 16) {
                return NONE;
            }
            int middle = (from + to) / 2;
            long takers = Reach.byPawn(1L << middle, side) & board.setOf(PAWN, 1 - side);
            return takers != 0 ? middle : NONE;
        }

        /** Whatever leaves or comes to such a square ends these rights. */
        private static int rightsBoundTo(int square) {
            switch (square) {
                case 0: return 2;
                case 4: return 3;
                case 7: return 1;
                case 56: return 8;
                case 60: return 12;
                case 63: return 4;
                default: return 0;
            }
        }
    }

    /** How many ways there are to go on from a position. */
    private static final class Ways {
        private static long count(Position position, int depth) {
            if (depth <= 0) {
                return 1;
            }
            if (depth == 1) {
                return position.countMoves();
            }
            long exposed = position.exposed();
            long left = position.board.allOf(position.side);
            long total = 0;
            for (int n = 0; n < SQUARES && left != 0; n++) {
                int from = lowestSquare(left);
                total += countFrom(position, from, position.legalTargets(from, exposed), depth);
                left &= left - 1;
            }
            return total;
        }

        private static long countFrom(Position position, int from, long targets, int depth) {
            int here = Long.bitCount(targets) * position.movesToOneTarget(from);
            long total = 0;
            for (int k = 0; k < here; k++) {
                int move = position.moveOfMan(from, targets, k);
                int memory = position.make(move);
                total += count(position, depth - 1);
                position.unmake(move, memory);
            }
            return total;
        }
    }

    /** The present position with all that led to it. */
    private static final class Game {
        private static final int BITS_OF_MEN = 4;

        private final Position present = new Position();
        private int count = 0;
        private final int[] told = new int[GAME_LIMIT];
        private final int[] memories = new int[GAME_LIMIT];
        /** Marks and pictures tell, for each position that stood, what makes two of them the same. */
        private final int[] marks = new int[GAME_LIMIT + 1];
        private final long[] pictures = new long[BITS_OF_MEN * (GAME_LIMIT + 1)];

        private void begin(Position first) {
            present.copy(first);
            count = 0;
            keepPicture();
        }

        private void advance(int move) {
            if (count >= 0 && count < GAME_LIMIT) {
                told[count] = move;
                memories[count] = present.make(move);
                count++;
                keepPicture();
            }
        }

        private void retreat() {
            if (count > 0 && count <= GAME_LIMIT) {
                count--;
                present.unmake(told[count], memories[count]);
            }
        }

        private void keepPicture() {
            if (count >= 0 && count <= GAME_LIMIT) {
                marks[count] = present.side + 2 * present.rights + 32 * (present.passedThatCounts() + 1);
                for (int bit = 0; bit < BITS_OF_MEN; bit++) {
                    pictures[BITS_OF_MEN * count + bit] = present.board.squaresWithBit(bit);
                }
            }
        }

        private int timesStood() {
            int times = 0;
            for (int i = 0; i <= count; i++) {
                if (isSameAsPresent(i)) {
                    times++;
                }
            }
            return times;
        }

        private boolean isSameAsPresent(int i) {
            if (i < 0 || i > count || count > GAME_LIMIT || marks[i] != marks[count]) {
                return false;
            }
            for (int bit = 0; bit < BITS_OF_MEN; bit++) {
                if (pictures[BITS_OF_MEN * i + bit] != pictures[BITS_OF_MEN * count + bit]) {
                    return false;
                }
            }
            return true;
        }

        /** What ends the game though there are moves to go on with. */
        private int endByItself() {
            if (present.board.hasTooLittle()) {
                return TOO_LITTLE;
            }
            if (timesStood() >= 5) {
                return FIFTH_TIME;
            }
            return present.clock >= 150 ? CLOCK_RAN_OUT : GOES_ON;
        }
    }

    /** Reads the text of a position, and finds its first fault. */
    private static final class Reader {
        private static final int NOT_WRITTEN_SO = 1;
        private static final int NOT_ONE_KING_EACH = 2;
        private static final int PAWN_ON_OUTER_RANK = 3;
        private static final int OTHER_SIDE_IN_CHECK = 4;
        private static final int RIGHT_WITHOUT_MEN = 5;
        private static final int NOTHING_PASSED = 6;
        private static final long OUTER_RANKS = 0xFF000000000000FFL;

        private final Line text = new Line();
        /** Not the game's own position, which must stay as it is if there is a fault. */
        private final Position position = new Position();
        private int at = 0;

        private int findFault() {
            at = 0;
            position.clear();
            if (!readAll()) {
                return NOT_WRITTEN_SO;
            }
            if (!hasOneKing(WHITE) || !hasOneKing(BLACK)) {
                return NOT_ONE_KING_EACH;
            }
            if ((position.board.bothOf(PAWN) & OUTER_RANKS) != 0) {
                return PAWN_ON_OUTER_RANK;
            }
            if (position.board.isInCheck(1 - position.side)) {
                return OTHER_SIDE_IN_CHECK;
            }
            if (!rightsHaveTheirMen(WHITE) || !rightsHaveTheirMen(BLACK)) {
                return RIGHT_WITHOUT_MEN;
            }
            return position.passed == NONE || justPassed() ? 0 : NOTHING_PASSED;
        }

        private boolean hasOneKing(int side) {
            return Long.bitCount(position.board.setOf(KING, side)) == 1;
        }

        private boolean rightsHaveTheirMen(int side) {
            boolean kingIsHome = position.board.manAt(Position.kingHome(side)) == KING + 8 * side;
            for (int wing = 0; wing < 2; wing++) {
                boolean rookIsHome = position.board.manAt(Position.rookHome(side, wing)) == ROOK + 8 * side;
                if (position.hasRight(side, wing) && !(kingIsHome && rookIsHome)) {
                    return false;
                }
            }
            return true;
        }

        private boolean justPassed() {
            int side = position.side;
            int passed = position.passed;
            int dueRank = side == WHITE ? 5 : 2;
            return position.board.isFree(passed)
                    && passed >> 3 == dueRank
                    && position.board.manAt(passed - stepOf(side)) == PAWN + 8 * (1 - side)
                    && position.board.isFree(passed + stepOf(side))
                    && position.pawnsThatAttackPassed() != 0;
        }

        private boolean readAll() {
            return readMen()
                    && readOne(' ') && readSide()
                    && readOne(' ') && readRights()
                    && readOne(' ') && readPassed()
                    && readOne(' ') && readClock()
                    && readOne(' ') && readMoveNumber()
                    && at == text.length;
        }

        private int next() {
            return text.at(at);
        }

        private boolean readOne(int c) {
            if (text.at(at) != c) {
                return false;
            }
            at++;
            return true;
        }

        private boolean readMen() {
            for (int rank = 7; rank >= 0; rank--) {
                if (!readRank(rank) || (rank > 0 && !readOne('/'))) {
                    return false;
                }
            }
            return true;
        }

        private boolean readRank(int rank) {
            int file = 0;
            boolean behindDigit = false;
            for (int n = 0; n < 8 && file < 8; n++) {
                int c = next();
                boolean isDigit = c >= '1' && c <= '8';
                int man = MEN_LETTERS.indexOf((char) c);
                if (isDigit ? behindDigit : man <= EMPTY) {
                    return false;
                }
                if (!isDigit) {
                    position.board.put(file + 8 * rank, man);
                }
                file += isDigit ? c - '0' : 1;
                behindDigit = isDigit;
                at++;
            }
            return file == 8;
        }

        private boolean readSide() {
            int side = SIDE_LETTERS.indexOf((char) next());
            if (side < 0) {
                return false;
            }
            position.side = side;
            at++;
            return true;
        }

        private boolean readRights() {
            if (readOne('-')) {
                return true;
            }
            for (int i = 0; i < RIGHTS_LETTERS.length(); i++) {
                if (readOne(RIGHTS_LETTERS.charAt(i))) {
                    position.rights |= 1 << i;
                }
            }
            return position.rights != 0;
        }

        private boolean readPassed() {
            if (readOne('-')) {
                return true;
            }
            int file = next() - 'a';
            int rank = text.at(at + 1) - '1';
            if (file < 0 || file > 7 || rank < 0 || rank > 7) {
                return false;
            }
            position.passed = file + 8 * rank;
            at += 2;
            return true;
        }

        private boolean readClock() {
            position.clock = readNumber();
            return position.clock >= 0;
        }

        private boolean readMoveNumber() {
            position.number = readNumber();
            return position.number >= 1;
        }

        /** NONE if there is no number; a fourth digit is left, where nothing that may follow begins with one. */
        private int readNumber() {
            if (readOne('0')) {
                return 0;
            }
            int value = 0;
            int digits = 0;
            for (int n = 0; n < 3 && next() >= '0' && next() <= '9'; n++) {
                value = 10 * value + next() - '0';
                digits++;
                at++;
            }
            return digits == 0 ? NONE : value;
        }
    }

    /** Writes the text of a position. */
    private static final class Writer {
        private static void tell(Position position, Line line) {
            line.shorten(0);
            tellMen(position, line);
            line.add(' ');
            line.add(position.side == WHITE ? 'w' : 'b');
            line.add(' ');
            tellRights(position.rights, line);
            line.add(' ');
            tellPassed(position.passed, line);
            line.add(' ');
            tellNumber(position.clock, line);
            line.add(' ');
            tellNumber(position.number, line);
        }

        private static void tellMen(Position position, Line line) {
            for (int rank = 7; rank >= 0; rank--) {
                tellRank(position, rank, line);
                if (rank > 0) {
                    line.add('/');
                }
            }
        }

        private static void tellRank(Position position, int rank, Line line) {
            int empty = 0;
            for (int file = 0; file < 8; file++) {
                int man = position.board.manAt(file + 8 * rank);
                if (man == EMPTY) {
                    empty++;
                } else {
                    tellEmpty(empty, line);
                    empty = 0;
                    line.add(letterOf(man));
                }
            }
            tellEmpty(empty, line);
        }

        private static void tellEmpty(int empty, Line line) {
            if (empty > 0) {
                line.add('0' + empty);
            }
        }

        private static int letterOf(int man) {
            return man >= 0 && man < MEN_LETTERS.length() ? MEN_LETTERS.charAt(man) : ' ';
        }

        private static void tellRights(int rights, Line line) {
            for (int i = 0; i < RIGHTS_LETTERS.length(); i++) {
                if ((rights >> i & 1) != 0) {
                    line.add(RIGHTS_LETTERS.charAt(i));
                }
            }
            if (rights == 0) {
                line.add('-');
            }
        }

        private static void tellPassed(int passed, Line line) {
            if (passed == NONE) {
                line.add('-');
            } else {
                line.add('a' + (passed & 7));
                line.add('1' + (passed >> 3));
            }
        }

        private static void tellNumber(int number, Line line) {
            int told = Math.min(number, NUMBER_LIMIT);
            if (told >= 100) {
                line.add('0' + told / 100);
            }
            if (told >= 10) {
                line.add('0' + told / 10 % 10);
            }
            line.add('0' + told % 10);
        }
    }
}
