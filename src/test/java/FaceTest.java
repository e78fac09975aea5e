import java.io.IOException;
import java.lang.reflect.Member;
import java.lang.reflect.Modifier;
import java.nio.file.Files;
import java.nio.file.Path;
import java.util.ArrayList;
import java.util.Arrays;
import java.util.List;
import java.util.Set;
import java.util.TreeSet;

/** The face of the class, and those of LANGUAGE.md's rules that can be read off it. */
final class FaceTest {
    private static final Set<String> FACE = new TreeSet<>(List.of("feed/5", "bend/2", "message/1", "answer/1", "word/1",
            "snap/0", "archive/1", "score/2", "crash/1", "file/3", "fid/2", "count/1"));

    public static void main(String[] args) throws IOException {
        Class<?> server = EpochServer.class;
        Bench.due("public and final", 1, Modifier.isPublic(server.getModifiers()) && Modifier.isFinal(server.getModifiers()) ? 1 : 0);
        Set<String> open = new TreeSet<>();
        Set<String> hidden = new TreeSet<>();
        for (var method : server.getDeclaredMethods()) {
            if (Modifier.isPrivate(method.getModifiers())) {
                hidden.add(method.getName());
            } else {
                open.add(method.getName() + "/" + method.getParameterCount());
                Bench.due(method + " is public", 1, Modifier.isPublic(method.getModifiers()) ? 1 : 0);
            }
        }
        Bench.due("methods " + open, 1, open.equals(FACE) ? 1 : 0);
        FACE.forEach(name -> Bench.due("private " + name, 0, hidden.contains(name.split("/")[0]) ? 1 : 0));
        Bench.due("constructors", 1, server.getDeclaredConstructors().length);
        members(server);
        for (Class<?> inside : server.getDeclaredClasses()) {
            Bench.due(inside + " is static", 1, Modifier.isStatic(inside.getModifiers()) ? 1 : 0);
            Bench.due(inside + " is neither public nor protected", 0, inside.getModifiers() & (Modifier.PUBLIC | Modifier.PROTECTED));
            Bench.due(inside + " has few fields", 1, fieldsOf(inside) <= 20 ? 1 : 0);
        }
        Bench.due("few classes", 1, server.getDeclaredClasses().length < 12 ? 1 : 0);
        words();
        Bench.end();
    }

    private static void members(Class<?> server) {
        for (Member field : server.getDeclaredFields()) {
            Bench.due(field + " is private", 1, Modifier.isPrivate(field.getModifiers()) ? 1 : 0);
            if (Modifier.isStatic(field.getModifiers())) {
                Bench.due(field + " is final", 1, Modifier.isFinal(field.getModifiers()) ? 1 : 0);
            }
        }
        Bench.due("few fields", 1, fieldsOf(server) <= 20 ? 1 : 0);
    }

    private static long fieldsOf(Class<?> type) {
        return Arrays.stream(type.getDeclaredFields()).filter(field -> !Modifier.isStatic(field.getModifiers())).count();
    }

    private static void words() throws IOException {
        String text = Files.readString(Path.of("src/main/java/EpochServer.java"));
        List<String> bare = new ArrayList<>(List.of(text.replaceAll("(?s)/\\*.*?\\*/", " ").replaceAll("//[^\n]*", " ").split("[^A-Za-z0-9_]+")));
        for (String word : List.of("throw", "try", "catch", "synchronized", "assert", "equals", "hashCode", "toString")) {
            Bench.due("the word " + word, 0, bare.contains(word) ? 1 : 0);
        }
    }
}
