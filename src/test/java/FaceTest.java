import java.io.IOException;
import java.lang.reflect.Constructor;
import java.lang.reflect.Field;
import java.lang.reflect.Method;
import java.lang.reflect.Modifier;
import java.nio.file.Files;
import java.nio.file.Path;
import java.util.ArrayList;
import java.util.Collections;
import java.util.List;

/** The public face is the document's, whole, and nothing else of the class can be seen. */
public final class FaceTest {
    private static final Path DOCUMENT = Path.of("../shared/DOC.md");
    /** What the document's face has besides methods. */
    private static final String[] BESIDES = {"final class ChessRules", "static final int NONE = -1", "ChessRules()"};
    private static final String[] FACE = {
        "boolean type(long,int)",
        "boolean cut(int)",
        "int load()",
        "int write()",
        "int out(int)",
        "int man(int) throws IndexOutOfBoundsException",
        "int about(int) throws IndexOutOfBoundsException",
        "long attackers(int,int) throws IndexOutOfBoundsException",
        "int moves()",
        "int move(int) throws IndexOutOfBoundsException",
        "int play(int) throws IllegalArgumentException,IllegalStateException,UnsupportedOperationException",
        "int back() throws IllegalStateException",
        "int played(int) throws IndexOutOfBoundsException",
        "int occurrence()",
        "int result()",
        "int claims()",
        "long ways(int) throws IllegalArgumentException",
    };

    public static void main(String[] args) throws IOException {
        Due due = new Due();
        documentSaysSo(due);
        List<String> want = new ArrayList<>(List.of(FACE));
        List<String> got = new ArrayList<>();
        for (Method method : ChessRules.class.getDeclaredMethods()) {
            if (!Modifier.isPrivate(method.getModifiers())) {
                got.add(told(method));
                due.same(method + " is public and no more", Modifier.PUBLIC, method.getModifiers());
            }
        }
        Collections.sort(want);
        Collections.sort(got);
        due.same("the methods", want.toString(), got.toString());
        due.same("the class", Modifier.PUBLIC | Modifier.FINAL, ChessRules.class.getModifiers() & ~0x20);
        fieldsAndConstructors(due);
        namesAreOnce(due);
        due.end();
    }

    /** The face that the class is compared with is the document's, line by line. */
    private static void documentSaysSo(Due due) throws IOException {
        if (!Files.isReadable(DOCUMENT)) {
            System.out.println("the document is not at " + DOCUMENT + ": its face is not compared");
            return;
        }
        List<String> told = new ArrayList<>();
        for (String line : Files.readString(DOCUMENT).split("## The public face")[1].split("\n## ")[0].split("\n")) {
            if (line.trim().startsWith("public ")) {
                String bare = line.trim().substring(7).replaceAll(" ?[;{]$", "");
                told.add(bare.replaceAll("(int|long) \\w+(?=[,)])", "$1").replace(", ", ","));
            }
        }
        List<String> face = new ArrayList<>(List.of(BESIDES));
        face.addAll(List.of(FACE));
        due.same("the document's face", told.toString(), face.toString());
    }

    private static void fieldsAndConstructors(Due due) {
        for (Field field : ChessRules.class.getDeclaredFields()) {
            boolean isFace = field.getName().equals("NONE");
            int want = isFace ? Modifier.PUBLIC | Modifier.STATIC | Modifier.FINAL : Modifier.PRIVATE;
            int mask = isFace ? -1 : Modifier.PRIVATE | Modifier.PUBLIC | Modifier.PROTECTED;
            due.same(field.toString(), want, field.getModifiers() & mask);
        }
        Constructor<?>[] constructors = ChessRules.class.getDeclaredConstructors();
        due.same("constructors", 1, constructors.length);
        due.same("its parameters", 0, constructors[0].getParameterCount());
        due.same("its modifiers", Modifier.PUBLIC, constructors[0].getModifiers());
        due.same("NONE", -1, ChessRules.NONE);
    }

    /** No private method, of a class inside either, bears the name of a public one. */
    private static void namesAreOnce(Due due) {
        List<Class<?>> classes = new ArrayList<>(List.of(ChessRules.class.getDeclaredClasses()));
        classes.add(ChessRules.class);
        for (Class<?> one : classes) {
            for (Method method : one.getDeclaredMethods()) {
                if (Modifier.isPrivate(method.getModifiers())) {
                    for (String face : FACE) {
                        due.same(method + " has a name of the face", false, face.contains(" " + method.getName() + "("));
                    }
                }
            }
        }
    }

    private static String told(Method method) {
        StringBuilder text = new StringBuilder(method.getReturnType() + " " + method.getName() + "(");
        for (int i = 0; i < method.getParameterCount(); i++) {
            text.append(i == 0 ? "" : ",").append(method.getParameterTypes()[i]);
        }
        text.append(")");
        Class<?>[] thrown = method.getExceptionTypes();
        for (int i = 0; i < thrown.length; i++) {
            text.append(i == 0 ? " throws " : ",").append(thrown[i].getSimpleName());
        }
        return text.toString();
    }
}
