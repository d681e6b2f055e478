import java.util.Arrays;

/** Texts of positions that the tests put together. */
final class Texts {
    static final String FIRST = "rnbqkbnr/pppppppp/8/8/8/8/PPPPPPPP/RNBQKBNR w KQkq - 0 1";
    static final String KINGS = "4k3/8/8/8/8/8/8/4K3 w - - 0 1";
    static final String CASTLES = "r3k2r/8/8/8/8/8/8/R3K2R w KQkq - 0 1";
    static final String MATED = "R5k1/5ppp/8/8/8/8/8/6K1 b - - 0 1";
    static final String STALEMATE = "7k/5Q2/8/8/8/8/8/6K1 b - - 0 1";

    private Texts() {
    }

    /** Men told as Ke1 kh8 Pa2; the other five fields as they stand in a text. */
    static String of(String men, String rest) {
        char[] squares = new char[64];
        Arrays.fill(squares, '1');
        for (String man : men.trim().split(" +")) {
            squares[Due.square(man.substring(1))] = man.charAt(0);
        }
        StringBuilder told = new StringBuilder();
        for (int rank = 7; rank >= 0; rank--) {
            told.append(squares, 8 * rank, 8).append(rank > 0 ? "/" : "");
        }
        String packed = told.toString();
        for (int n = 8; n > 1; n--) {
            packed = packed.replace("1".repeat(n), "" + n);
        }
        return packed + " " + rest;
    }

    /** These men with both kings besides, which stand on no line of theirs and no knight's step away. */
    static String withKings(String men, String rest) {
        for (int white = 0; white < 64; white++) {
            for (int black = 63; black >= 0; black--) {
                if (isApart(white, men) && isApart(black, men) && distance(white, black) > 1) {
                    return of("K" + Due.name64(white) + " k" + Due.name64(black) + " " + men, rest);
                }
            }
        }
        throw new AssertionError("no place for the kings beside " + men);
    }

    /** These men, the white king among them, with the black king besides, out of the way of them all. */
    static String withBlackKing(String men, String rest) {
        for (int black = 63; black >= 0; black--) {
            if (isApart(black, men)) {
                return of("k" + Due.name64(black) + " " + men, rest);
            }
        }
        throw new AssertionError("no place for a king beside " + men);
    }

    private static boolean isApart(int king, String men) {
        for (String man : men.split(" ")) {
            int square = Due.square(man.substring(1));
            int across = Math.abs((king & 7) - (square & 7));
            int up = Math.abs((king >> 3) - (square >> 3));
            if (across == 0 || up == 0 || across == up || across * up == 2) {
                return false;
            }
        }
        return true;
    }

    static int distance(int one, int other) {
        return Math.max(Math.abs((one & 7) - (other & 7)), Math.abs((one >> 3) - (other >> 3)));
    }

    /** The same position with white and black exchanged: ranks, men, side, rights, passed square. */
    static String mirrored(String text) {
        String[] fields = text.split(" ");
        StringBuilder men = new StringBuilder();
        String[] ranks = fields[0].split("/");
        for (int i = 7; i >= 0; i--) {
            men.append(otherCase(ranks[i])).append(i > 0 ? "/" : "");
        }
        String rights = otherCase(fields[2]);
        String inOrder = rights.replaceAll("[kq]", "") + rights.replaceAll("[KQ]", "");
        return men + (fields[1].equals("w") ? " b " : " w ") + (rights.equals("-") ? "-" : inOrder) + " "
                + mirroredNames(fields[3]) + " " + fields[4] + " " + fields[5];
    }

    /** Squares and moves told by names: the rank n becomes the rank 9 - n. */
    static String mirroredNames(String names) {
        StringBuilder told = new StringBuilder();
        for (char c : names.toCharArray()) {
            told.append(c >= '1' && c <= '8' ? (char) ('1' + '8' - c) : c);
        }
        return told.toString();
    }

    private static String otherCase(String letters) {
        StringBuilder told = new StringBuilder();
        for (char c : letters.toCharArray()) {
            told.append(Character.isUpperCase(c) ? Character.toLowerCase(c) : Character.toUpperCase(c));
        }
        return told.toString();
    }
}
