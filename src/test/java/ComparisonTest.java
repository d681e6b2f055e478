import java.util.Random;
import java.util.function.LongSupplier;

/** Random runs of calls, right and wrong ones, on ChessRules and on PlainChess. */
public final class ComparisonTest {
    private static final int RUNS = 300;
    /** Beyond so many calls of an object the document promises nothing. */
    private static final int CALL_LIMIT = 512;
    private static final int LONG_GAME = 450;
    /** It leaves room for asking all there is. */
    private static final int SHORT_GAME = 130;
    private static final String[] TEXTS = {
        "rnbqkbnr/pppppppp/8/8/8/8/PPPPPPPP/RNBQKBNR w KQkq - 0 1",
        "r3k2r/p1ppqpb1/bn2pnp1/3PN3/1p2P3/2N2Q1p/PPPBBPPP/R3K2R w KQkq - 0 1",
        "8/2p5/3p4/KP5r/1R3p1k/8/4P1P1/8 w - - 0 1",
        "r3k2r/Pppp1ppp/1b3nbN/nP6/BBP1P3/q4N2/Pp1P2PP/R2Q1RK1 w kq - 0 1",
        "rnbq1k1r/pp1Pbppp/2p5/8/2B5/8/PPP1NnPP/RNBQK2R w KQ - 1 8",
        "r3k2r/8/8/8/8/8/8/R3K2R b KQkq - 97 60",
        "n1n5/PPPk4/8/8/8/8/4Kppp/5N1N b - - 0 1",
        "4k3/8/8/8/8/8/8/4K2R w K - 140 998",
        "8/8/8/3k4/8/8/3K4/8 b - - 3 7",
        "4k3/8/8/2pP4/8/8/8/4K3 w - c6 0 2",
        "8/8/8/8/k1pP3R/8/8/4K3 b - d3 0 1",
        "8/3k4/8/8/3N4/3K4/3p4/8 b - - 98 1",
        "8/8/3k4/8/2b5/3K4/3p4/1B6 w - - 0 9",
    };

    private final Random random;
    private final ChessRules quick = new ChessRules();
    private final PlainChess plain = new PlainChess();
    private final Due due;
    private final int run;
    private int calls = 0;

    private ComparisonTest(Due due, int run) {
        this.due = due;
        this.run = run;
        this.random = new Random(run);
    }

    public static void main(String[] args) {
        Due due = new Due();
        for (int run = 0; run < RUNS; run++) {
            new ComparisonTest(due, run).go();
        }
        due.end();
    }

    private void go() {
        if (random.nextInt(6) > 0) {
            load(random.nextInt(3) == 0 ? randomText() : TEXTS[random.nextInt(TEXTS.length)]);
        }
        // Some runs move men to and fro, so that positions come again.
        boolean shuffles = random.nextInt(4) == 0;
        int end = random.nextInt(3) == 0 ? SHORT_GAME : LONG_GAME;
        while (calls < end) {
            if (random.nextInt(3) > 0) {
                playOne(shuffles);
            } else {
                askOne();
            }
        }
        askAll();
    }

    private void playOne(boolean shuffles) {
        int count = plain.moves();
        if (count == 0 || random.nextInt(40) == 0) {
            same("back()", () -> quick.back(), () -> plain.back());
            return;
        }
        int undoing = shuffles ? plain.undoing() : ChessRules.NONE;
        int move = undoing != ChessRules.NONE ? undoing : plain.move(random.nextInt(count));
        same("play(" + move + ")", () -> quick.play(move), () -> plain.play(move));
    }

    private void askOne() {
        int n = random.nextInt(12) == 0 ? random.nextInt() : random.nextInt(72) - 4;
        switch (random.nextInt(17)) {
            case 0: same("man(" + n + ")", () -> quick.man(n), () -> plain.man(n)); break;
            case 1: same("about(" + n % 9 + ")", () -> quick.about(n % 9), () -> plain.about(n % 9)); break;
            case 2: askAttackers(n, random.nextInt(4) - 1); break;
            case 3: same("moves()", () -> quick.moves(), () -> plain.moves()); break;
            case 4: same("move(" + n + ")", () -> quick.move(n), () -> plain.move(n)); break;
            case 5: playWrong(); break;
            case 6: same("back()", () -> quick.back(), () -> plain.back()); break;
            case 7: same("played(" + n + ")", () -> quick.played(n), () -> plain.played(n)); break;
            case 8: same("occurrence()", () -> quick.occurrence(), () -> plain.occurrence()); break;
            case 9: same("result()", () -> quick.result(), () -> plain.result()); break;
            case 10: same("claims()", () -> quick.claims(), () -> plain.claims()); break;
            case 11: askWays(random.nextInt(20) == 0 ? random.nextInt(9) - 3 : random.nextInt(3)); break;
            case 12: same("write()", () -> quick.write(), () -> plain.write()); break;
            case 13: same("out(" + n + ")", () -> quick.out(n), () -> plain.out(n)); break;
            case 14: typeAny(random.nextInt(12) - 2); break;
            case 15: same("cut(" + n + ")", () -> asNumber(quick.cut(n)), () -> asNumber(plain.cut(n))); break;
            default: same("load()", () -> quick.load(), () -> plain.load());
        }
    }

    private void askWays(int depth) {
        int held = depth == 3 && plain.moves() > 12 ? 2 : depth;
        same("ways(" + held + ")", () -> quick.ways(held), () -> plain.ways(held));
    }

    private void askAttackers(int square, int side) {
        String call = "attackers(" + square + ", " + side + ")";
        same(call, () -> quick.attackers(square, side), () -> plain.attackers(square, side));
    }

    private void playWrong() {
        int move = random.nextInt(10) == 0 ? random.nextInt() : random.nextInt(8 * 4096);
        same("play(" + move + ")", () -> quick.play(move), () -> plain.play(move));
    }

    private void typeAny(int n) {
        long w = 0;
        for (int i = 0; i < 8; i++) {
            w = w << 8 | (random.nextInt(30) == 0 ? random.nextInt(256) : 32 + random.nextInt(95));
        }
        long told = w;
        same("type(" + w + ", " + n + ")", () -> asNumber(quick.type(told, n)), () -> asNumber(plain.type(told, n)));
    }

    /** All that can be asked, as far as the limit of calls lets it. */
    private void askAll() {
        same("result()", () -> quick.result(), () -> plain.result());
        same("claims()", () -> quick.claims(), () -> plain.claims());
        askWays(2);
        for (int i = -1; i < 8; i++) {
            int n = i;
            same("about(" + n + ")", () -> quick.about(n), () -> plain.about(n));
        }
        for (int i = -1; i <= plain.moves(); i++) {
            int n = i;
            same("move(" + n + ")", () -> quick.move(n), () -> plain.move(n));
        }
        same("write()", () -> quick.write(), () -> plain.write());
        for (int i = -1; i < 101; i++) {
            int n = i;
            same("out(" + n + ")", () -> quick.out(n), () -> plain.out(n));
        }
        for (int i = -1; i < 65; i++) {
            int n = i;
            same("man(" + n + ")", () -> quick.man(n), () -> plain.man(n));
            askAttackers(n, 0);
            askAttackers(n, 1);
        }
    }

    private void load(String text) {
        same("cut(0)", () -> asNumber(quick.cut(0)), () -> asNumber(plain.cut(0)));
        for (int start = 0; start < text.length(); start += 8) {
            String part = text.substring(start, Math.min(text.length(), start + 8));
            long w = Due.packed(part);
            int n = part.length();
            same("type(" + w + ", " + n + ")", () -> asNumber(quick.type(w, n)), () -> asNumber(plain.type(w, n)));
        }
        same("load() of " + text, () -> quick.load(), () -> plain.load());
    }

    /** Men thrown on the board; most such texts have a fault, and the two must agree on which. */
    private String randomText() {
        StringBuilder men = new StringBuilder();
        int full = 2 + random.nextInt(40);
        char[] squares = new char[64];
        for (int i = 0; i < 64; i++) {
            boolean inner = i > 7 && i < 56;
            String letters = inner ? "PPPNBRQpppnbrq" : "NBRQnbrq";
            squares[i] = random.nextInt(64) < full ? letters.charAt(random.nextInt(letters.length())) : '1';
        }
        squares[random.nextInt(3) == 0 ? 60 : random.nextInt(64)] = 'K';
        squares[random.nextInt(3) == 0 ? 4 : random.nextInt(64)] = 'k';
        for (int i = 0; i < 64; i++) {
            men.append(i > 0 && i % 8 == 0 ? "/" : "").append(squares[i]);
        }
        String told = men.toString();
        for (int n = 8; n > 1; n--) {
            told = told.replace("11111111".substring(0, n), "" + n);
        }
        String passed = random.nextInt(3) > 0 ? "-" : "" + "abcdefgh".charAt(random.nextInt(8)) + (random.nextInt(2) * 3 + 3);
        String rights = random.nextInt(3) > 0 ? "-" : new String[] {"K", "Q", "k", "q", "KQ", "KQkq"}[random.nextInt(6)];
        return told + (random.nextBoolean() ? " w " : " b ") + rights + " " + passed + " "
                + random.nextInt(160) + " " + (1 + random.nextInt(999));
    }

    private static long asNumber(boolean answer) {
        return answer ? 1 : 0;
    }

    private void same(String call, LongSupplier ofQuick, LongSupplier ofPlain) {
        if (calls < CALL_LIMIT) {
            calls++;
            due.same("run " + run + ": " + call, Due.answerOf(ofPlain), Due.answerOf(ofQuick));
        }
    }
}
