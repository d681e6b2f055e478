import java.util.ArrayList;
import java.util.List;
import java.util.regex.Matcher;
import java.util.regex.Pattern;

/**
 * The same face as ChessRules, written a second time from the document in the slowest and plainest
 * way that there is: every pair of squares is tried, every move makes a new position. The tests
 * compare the two.
 */
final class PlainChess {
    private static final String LETTERS = " PNBRQK  pnbrqk";
    private static final String FIRST = "rnbqkbnr/pppppppp/8/8/8/8/PPPPPPPP/RNBQKBNR w KQkq - 0 1";
    private static final Pattern SHAPE = Pattern.compile(
            "([PNBRQKpnbrqk1-8/]+) ([wb]) (-|(?=[KQkq])K?Q?k?q?) (-|[a-h][1-8]) (0|[1-9][0-9]{0,2}) ([1-9][0-9]{0,2})");

    private static final class State {
        int[] men = new int[64];
        int side;
        String rights = "";
        int passed = -1;
        int clock;
        int number;
    }

    private String text = "";
    private String out = "";
    private final List<State> states = new ArrayList<>();
    private final List<Integer> played = new ArrayList<>();

    PlainChess() {
        states.add(read(FIRST));
    }

    boolean type(long w, int n) {
        if (n < 1 || n > 8 || text.length() + n > 100) {
            return false;
        }
        String more = "";
        for (int i = 0; i < n; i++) {
            int c = (int) (w >> 8 * i & 0xFF);
            if (c < 32 || c > 126) {
                return false;
            }
            more += (char) c;
        }
        text += more;
        return true;
    }

    boolean cut(int n) {
        if (n < 0 || n > text.length()) {
            return false;
        }
        text = text.substring(0, n);
        return true;
    }

    int load() {
        State state = read(text);
        int fault = state == null ? 1 : faultOf(state);
        if (fault == 0) {
            states.clear();
            played.clear();
            states.add(state);
            text = "";
        }
        return fault;
    }

    int write() {
        State s = now();
        StringBuilder men = new StringBuilder();
        for (int rank = 7; rank >= 0; rank--) {
            for (int file = 0; file < 8; file++) {
                int man = s.men[file + 8 * rank];
                men.append(man == 0 ? "1" : "" + LETTERS.charAt(man));
            }
            men.append(rank > 0 ? "/" : "");
        }
        String packed = men.toString();
        for (int n = 8; n > 1; n--) {
            packed = packed.replace("11111111".substring(0, n), "" + n);
        }
        out = packed + (s.side == 0 ? " w " : " b ") + (s.rights.isEmpty() ? "-" : s.rights) + " "
                + (s.passed < 0 ? "-" : "" + (char) ('a' + s.passed % 8) + (char) ('1' + s.passed / 8)) + " "
                + Math.min(999, s.clock) + " " + Math.min(999, s.number);
        return out.length();
    }

    int out(int i) {
        return i >= 0 && i < out.length() ? out.charAt(i) : 0;
    }

    int man(int square) {
        need(square >= 0 && square <= 63);
        return now().men[square];
    }

    int about(int what) {
        need(what >= 0 && what <= 5);
        State s = now();
        int rights = 0;
        for (char c : s.rights.toCharArray()) {
            rights += 1 << "KQkq".indexOf(c);
        }
        return new int[] {s.side, rights, s.passed, s.clock, s.number, inCheck(s, s.side) ? 1 : 0}[what];
    }

    long attackers(int square, int side) {
        need(square >= 0 && square <= 63 && side >= 0 && side <= 1);
        long set = 0;
        for (int from = 0; from < 64; from++) {
            if (isOf(now(), from, side) && attacks(now(), from, square)) {
                set |= 1L << from;
            }
        }
        return set;
    }

    int moves() {
        return legal(now()).size();
    }

    int move(int k) {
        List<Integer> legal = legal(now());
        need(k >= 0 && k < legal.size());
        return legal.get(k);
    }

    int play(int move) {
        if (!legal(now()).contains(move)) {
            throw new IllegalArgumentException();
        }
        if (result() >= 3) {
            throw new IllegalStateException();
        }
        if (played.size() == 400) {
            throw new UnsupportedOperationException();
        }
        states.add(behind(now(), move));
        played.add(move);
        return played.size();
    }

    int back() {
        if (played.isEmpty()) {
            throw new IllegalStateException();
        }
        states.remove(states.size() - 1);
        played.remove(played.size() - 1);
        return played.size();
    }

    int played(int i) {
        need(i >= 0 && i < played.size());
        return played.get(i);
    }

    int occurrence() {
        String present = likeness(now());
        int times = 0;
        for (State s : states) {
            times += likeness(s).equals(present) ? 1 : 0;
        }
        return times;
    }

    int result() {
        State s = now();
        if (legal(s).isEmpty()) {
            return inCheck(s, s.side) ? 1 : 2;
        }
        return tooLittle(s) ? 3 : occurrence() >= 5 ? 4 : s.clock >= 150 ? 5 : 0;
    }

    int claims() {
        if (result() > 0) {
            return 0;
        }
        return (occurrence() >= 3 ? 1 : 0) + (now().clock >= 100 ? 2 : 0);
    }

    long ways(int depth) {
        if (depth < 0 || depth > 3) {
            throw new IllegalArgumentException();
        }
        return waysFrom(now(), depth);
    }

    /** The legal move that undoes the latest one of the side to move; NONE if there is none. */
    int undoing() {
        if (played.size() < 2) {
            return ChessRules.NONE;
        }
        int latest = played.get(played.size() - 2);
        int undone = (latest >> 6 & 63) + 64 * (latest & 63);
        return legal(now()).contains(undone) ? undone : ChessRules.NONE;
    }

    private static long waysFrom(State s, int depth) {
        if (depth == 0) {
            return 1;
        }
        long total = 0;
        for (int move : legal(s)) {
            total += waysFrom(behind(s, move), depth - 1);
        }
        return total;
    }

    private State now() {
        return states.get(states.size() - 1);
    }

    private static void need(boolean isThere) {
        if (!isThere) {
            throw new IndexOutOfBoundsException();
        }
    }

    private static State read(String told) {
        Matcher m = SHAPE.matcher(told);
        if (!m.matches() || m.group(1).matches(".*[1-8][1-8].*")) {
            return null;
        }
        String[] ranks = m.group(1).split("/", -1);
        if (ranks.length != 8) {
            return null;
        }
        State s = new State();
        for (int i = 0; i < 8; i++) {
            String rank = ranks[i];
            for (int n = 1; n <= 8; n++) {
                rank = rank.replace("" + n, "        ".substring(0, n));
            }
            if (rank.length() != 8) {
                return null;
            }
            for (int file = 0; file < 8; file++) {
                s.men[file + 8 * (7 - i)] = LETTERS.indexOf(rank.charAt(file));
            }
        }
        s.side = m.group(2).equals("w") ? 0 : 1;
        s.rights = m.group(3).equals("-") ? "" : m.group(3);
        String passed = m.group(4);
        s.passed = passed.equals("-") ? -1 : passed.charAt(0) - 'a' + 8 * (passed.charAt(1) - '1');
        s.clock = Integer.parseInt(m.group(5));
        s.number = Integer.parseInt(m.group(6));
        return s;
    }

    private static int faultOf(State s) {
        int[] kings = new int[2];
        boolean outerPawn = false;
        for (int square = 0; square < 64; square++) {
            if (kind(s, square) == 6) {
                kings[s.men[square] / 8]++;
            }
            outerPawn |= kind(s, square) == 1 && (square < 8 || square > 55);
        }
        if (kings[0] != 1 || kings[1] != 1) {
            return 2;
        }
        if (outerPawn) {
            return 3;
        }
        if (inCheck(s, 1 - s.side)) {
            return 4;
        }
        for (char c : s.rights.toCharArray()) {
            int base = c == 'K' || c == 'Q' ? 0 : 56;
            int more = base == 0 ? 0 : 8;
            int rook = c == 'K' || c == 'k' ? base + 7 : base;
            if (s.men[base + 4] != 6 + more || s.men[rook] != 4 + more) {
                return 5;
            }
        }
        return s.passed < 0 || passedIsRight(s) ? 0 : 6;
    }

    private static boolean passedIsRight(State s) {
        if (s.men[s.passed] != 0 || s.passed / 8 != (s.side == 0 ? 5 : 2)) {
            return false;
        }
        int pawnOn = s.side == 0 ? s.passed - 8 : s.passed + 8;
        int cameFrom = s.side == 0 ? s.passed + 8 : s.passed - 8;
        return s.men[pawnOn] == (s.side == 0 ? 9 : 1) && s.men[cameFrom] == 0 && pawnAttacks(s, s.passed, s.side);
    }

    private static boolean pawnAttacks(State s, int square, int side) {
        for (int from = 0; from < 64; from++) {
            if (s.men[from] == 1 + 8 * side && attacks(s, from, square)) {
                return true;
            }
        }
        return false;
    }

    private static int kind(State s, int square) {
        return s.men[square] % 8;
    }

    private static boolean isOf(State s, int square, int side) {
        return s.men[square] != 0 && s.men[square] / 8 == side;
    }

    private static boolean attacks(State s, int from, int to) {
        int across = to % 8 - from % 8;
        int up = to / 8 - from / 8;
        int far = Math.max(Math.abs(across), Math.abs(up));
        int near = Math.min(Math.abs(across), Math.abs(up));
        boolean straight = near == 0;
        boolean diagonal = near == far;
        if (far == 0) {
            return false;
        }
        switch (kind(s, from)) {
            case 1: return Math.abs(across) == 1 && up == (s.men[from] < 8 ? 1 : -1);
            case 2: return far == 2 && near == 1;
            case 3: return diagonal && allEmpty(s, from, to);
            case 4: return straight && allEmpty(s, from, to);
            case 5: return (straight || diagonal) && allEmpty(s, from, to);
            case 6: return far == 1;
            default: return false;
        }
    }

    /** The squares strictly between two squares of one line. */
    private static boolean allEmpty(State s, int from, int to) {
        int step = Integer.signum(to % 8 - from % 8) + 8 * Integer.signum(to / 8 - from / 8);
        for (int square = from + step; square != to; square += step) {
            if (s.men[square] != 0) {
                return false;
            }
        }
        return true;
    }

    private static boolean attacked(State s, int square, int side) {
        for (int from = 0; from < 64; from++) {
            if (isOf(s, from, side) && attacks(s, from, square)) {
                return true;
            }
        }
        return false;
    }

    private static boolean inCheck(State s, int side) {
        for (int square = 0; square < 64; square++) {
            if (s.men[square] == 6 + 8 * side) {
                return attacked(s, square, 1 - side);
            }
        }
        return false;
    }

    private static List<Integer> legal(State s) {
        List<Integer> found = new ArrayList<>();
        for (int from = 0; from < 64; from++) {
            for (int to = 0; to < 64; to++) {
                if (!isOf(s, from, s.side) || !mayGo(s, from, to)) {
                    continue;
                }
                if (inCheck(behind(s, from + 64 * to), s.side)) {
                    continue;
                }
                boolean last = kind(s, from) == 1 && (to < 8 || to > 55);
                for (int m = last ? 2 : 0; m <= (last ? 5 : 0); m++) {
                    found.add(from + 64 * to + 4096 * m);
                }
            }
        }
        return found;
    }

    private static boolean mayGo(State s, int from, int to) {
        if (isOf(s, to, s.side)) {
            return false;
        }
        if (kind(s, from) == 6 && castles(s, from, to)) {
            return true;
        }
        if (kind(s, from) != 1) {
            return attacks(s, from, to);
        }
        int step = s.side == 0 ? 8 : -8;
        int firstRank = s.side == 0 ? 1 : 6;
        if (to == from + step) {
            return s.men[to] == 0;
        }
        if (to == from + 2 * step) {
            return from / 8 == firstRank && s.men[to] == 0 && s.men[from + step] == 0;
        }
        return attacks(s, from, to) && (s.men[to] != 0 || to == s.passed);
    }

    private static boolean castles(State s, int from, int to) {
        int home = s.side == 0 ? 4 : 60;
        if (from != home || Math.abs(to - from) != 2) {
            return false;
        }
        String right = (s.side == 0 ? "KQ" : "kq").substring(to > from ? 0 : 1, to > from ? 1 : 2);
        int rook = to > from ? home + 3 : home - 4;
        return s.rights.contains(right) && allEmpty(s, home, rook) && !attacked(s, home, 1 - s.side)
                && !attacked(s, (from + to) / 2, 1 - s.side);
    }

    private static State behind(State s, int move) {
        int from = move & 63;
        int to = move >> 6 & 63;
        State b = new State();
        b.men = s.men.clone();
        boolean pawn = kind(s, from) == 1;
        boolean takes = s.men[to] != 0;
        b.men[to] = move >> 12 == 0 ? s.men[from] : (move >> 12) + 8 * s.side;
        b.men[from] = 0;
        if (pawn && from % 8 != to % 8 && !takes) {
            b.men[from / 8 * 8 + to % 8] = 0;
        }
        if (kind(s, from) == 6 && Math.abs(from % 8 - to % 8) == 2) {
            b.men[to > from ? from + 3 : from - 4] = 0;
            b.men[(from + to) / 2] = 4 + 8 * s.side;
        }
        b.rights = s.rights;
        String[] bound = {"0Q", "4KQ", "7K", "56q", "60kq", "63k"};
        for (String one : bound) {
            int square = Integer.parseInt(one.replaceAll("[KQkq]", ""));
            if (square == from || square == to) {
                b.rights = b.rights.replaceAll("[" + one.replaceAll("[0-9]", "") + "]", "");
            }
        }
        b.side = 1 - s.side;
        boolean twoSteps = pawn && Math.abs(from / 8 - to / 8) == 2;
        b.passed = twoSteps && pawnAttacks(b, (from + to) / 2, b.side) ? (from + to) / 2 : -1;
        b.clock = pawn || takes ? 0 : s.clock + 1;
        b.number = s.number + s.side;
        return b;
    }

    /** Two positions are the same if these texts are. */
    private static String likeness(State s) {
        StringBuilder told = new StringBuilder();
        for (int man : s.men) {
            told.append((char) ('a' + man));
        }
        told.append(s.side).append(s.rights);
        if (s.passed >= 0) {
            for (int move : legal(s)) {
                if (kind(s, move & 63) == 1 && (move >> 6 & 63) == s.passed) {
                    told.append(' ').append(move);
                }
            }
        }
        return told.toString();
    }

    private static boolean tooLittle(State s) {
        int knights = 0;
        int light = 0;
        int dark = 0;
        for (int square = 0; square < 64; square++) {
            int kind = kind(s, square);
            if (kind == 1 || kind == 4 || kind == 5) {
                return false;
            }
            knights += kind == 2 ? 1 : 0;
            light += kind == 3 && (square % 8 + square / 8) % 2 == 1 ? 1 : 0;
            dark += kind == 3 && (square % 8 + square / 8) % 2 == 0 ? 1 : 0;
        }
        return knights == 0 ? light == 0 || dark == 0 : knights == 1 && light + dark == 0;
    }
}
