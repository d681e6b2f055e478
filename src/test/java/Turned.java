import java.util.Arrays;

/** Asks for both sides: as it is told, and with the board turned round and white and black exchanged. */
final class Turned {
    private Turned() {
    }

    /** Where the man on a square may go: the squares' names, with the letter of what a pawn becomes. */
    static void goes(Due due, String text, String from, String want) {
        askGoes(due, text, from, want);
        askGoes(due, Texts.mirrored(text), Texts.mirroredNames(from), Texts.mirroredNames(want));
    }

    private static void askGoes(Due due, String text, String from, String want) {
        due.same("moves from " + from + " of " + text, sorted(want), sorted(targets(Due.from(text), from)));
    }

    static String targets(ChessRules x, String from) {
        StringBuilder names = new StringBuilder();
        for (String name : Due.moves(x).split(" ")) {
            if (name.startsWith(from)) {
                names.append(' ').append(name.substring(2));
            }
        }
        return names.toString();
    }

    private static String sorted(String names) {
        String[] parts = names.trim().split(" +");
        Arrays.sort(parts);
        return String.join(" ", parts);
    }

    /** All moves there are. */
    static void allMoves(Due due, String text, String want) {
        due.same("moves of " + text, sorted(want), sorted(Due.moves(Due.from(text))));
        String turned = Texts.mirrored(text);
        due.same("moves of " + turned, sorted(Texts.mirroredNames(want)), sorted(Due.moves(Due.from(turned))));
    }

    /** What the text is behind these moves, but for the number of the move, which black's moves count. */
    static void behind(Due due, String text, String moves, String want) {
        askBehind(due, text, moves, withoutNumber(want));
        askBehind(due, Texts.mirrored(text), Texts.mirroredNames(moves), withoutNumber(Texts.mirrored(want)));
    }

    private static void askBehind(Due due, String text, String moves, String want) {
        ChessRules x = Due.from(text);
        Due.play(x, moves);
        due.same("behind " + moves + " of " + text, want, withoutNumber(Due.written(x)));
        for (int i = moves.split(" ").length; i > 0; i--) {
            due.same("back() behind " + moves, i - 1, x.back());
        }
        due.same("when " + moves + " is taken back", text, Due.written(x));
    }

    private static String withoutNumber(String text) {
        return text.substring(0, text.lastIndexOf(' '));
    }

    /** None of these moves is legal. */
    static void refused(Due due, String text, String moves) {
        askRefused(due, text, moves);
        askRefused(due, Texts.mirrored(text), Texts.mirroredNames(moves));
    }

    private static void askRefused(Due due, String text, String moves) {
        ChessRules x = Due.from(text);
        for (String name : moves.split(" ")) {
            due.illegal("play of " + name + " in " + text, () -> x.play(Due.move(name)));
        }
        due.same("nothing changed", text, Due.written(x));
    }
}
