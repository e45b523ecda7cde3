import java.io.IOException;
import java.lang.reflect.Field;
import java.lang.reflect.Method;
import java.lang.reflect.Modifier;
import java.nio.file.Files;
import java.nio.file.Path;
import java.util.List;
import java.util.Set;
import java.util.TreeSet;
import java.util.regex.Pattern;

/** The face is that of the document, and the source keeps to what LANGUAGE.md can be tested for. */
public final class FaceTest {
    private static final String[] CALLS = {
        "feed 5 int", "end 1 void", "diagram 0 int", "braid 1 int", "drop 1 boolean", "dropBraid 1 boolean",
        "figure 2 int", "visit 3 int", "linking 3 int", "alike 2 boolean", "mirror 1 int", "reverse 2 int",
        "change 2 int", "smooth 2 int", "apart 2 int", "join 4 int", "moves 2 int", "moved 1 int", "simplify 1 int",
        "way 2 int", "summands 1 int", "summand 1 int", "conway 2 int", "jones 2 int", "signature 1 int",
        "cover 2 int", "colours 2 long", "maps 2 int", "chain 2 int", "rank 2 int", "closure 1 int",
        "product 2 int", "inverse 1 int", "normal 2 int", "factor 3 int", "equal 2 boolean", "summit 1 int",
        "conjugate 2 int", "two 3 int",
    };
    private static final String[] REFUSED = {
        "catch", "try", "finally", "synchronized", "assert", "->", "::", "Exact(", "Random", "System.out",
        "currentTime", "nanoTime", "static {", "instanceof", "protected",
    };
    private static final Bench BENCH = new Bench();

    public static void main(String[] args) throws IOException {
        members();
        nested();
        source();
        BENCH.finish();
    }

    private static void members() {
        Set<String> due = new TreeSet<>(List.of(CALLS));
        Set<String> got = new TreeSet<>();
        for (Method method : KnotHouse.class.getDeclaredMethods()) {
            boolean face = Modifier.isPublic(method.getModifiers());
            if (face) {
                got.add(method.getName() + " " + method.getParameterCount() + " " + method.getReturnType());
            }
            BENCH.due(method.getName() + " is public or private", true,
                () -> face || Modifier.isPrivate(method.getModifiers()));
        }
        BENCH.due("the public calls", due, () -> got);
        for (Field field : KnotHouse.class.getDeclaredFields()) {
            boolean constant = field.getName().equals("NONE") || field.getName().equals("OPEN");
            BENCH.due(field.getName() + " is seen", constant, () -> !Modifier.isPrivate(field.getModifiers()));
        }
        BENCH.due("the class is final", true, () -> Modifier.isFinal(KnotHouse.class.getModifiers()));
    }

    private static void nested() {
        Set<String> names = new TreeSet<>();
        for (String call : CALLS) {
            names.add(call.split(" ")[0]);
        }
        Class<?>[] classes = KnotHouse.class.getDeclaredClasses();
        BENCH.due("twelve classes at most", true, () -> classes.length + 1 <= 12);
        for (Class<?> inner : classes) {
            int fields = 0;
            for (Field field : inner.getDeclaredFields()) {
                fields += Modifier.isStatic(field.getModifiers()) ? 0 : 1;
            }
            int count = fields;
            BENCH.due(inner.getName() + " has at most 20 fields", true, () -> count <= 20);
            BENCH.due(inner.getName() + " is static", true, () -> Modifier.isStatic(inner.getModifiers()));
            for (Method method : inner.getDeclaredMethods()) {
                BENCH.due(method.getName() + " is a name of the face", false, () -> names.contains(method.getName()));
                BENCH.due(method.getName() + " has at most 7 parameters", true, () -> method.getParameterCount() <= 7);
            }
        }
    }

    private static void source() throws IOException {
        List<String> lines = Files.readAllLines(Path.of("src/main/java/KnotHouse.java"));
        for (int i = 0; i < lines.size(); i++) {
            String line = lines.get(i).trim();
            boolean comment = line.startsWith("//") || line.startsWith("*") || line.startsWith("/*");
            int number = i + 1;
            for (String word : REFUSED) {
                boolean there = !comment && line.matches(".*(?<![A-Za-z])" + Pattern.quote(word) + "(?![A-Za-z]).*");
                BENCH.due("line " + number + " has " + word, false, () -> there);
            }
            if (isMethod(lines.get(i))) {
                int length = lengthOf(lines, i);
                BENCH.due("the method at line " + number + " has at most 60 lines", true, () -> length <= 60);
            }
        }
    }

    private static boolean isMethod(String line) {
        return line.matches(" {4}( {4})?[A-Za-z].*\\(.*\\{")
            && !line.trim().matches("(if|for|while|switch|else|do|return)\\b.*");
    }

    /** Up to the brace that stands as far in as the method begins. */
    private static int lengthOf(List<String> lines, int begin) {
        String head = lines.get(begin);
        String end = head.substring(0, head.indexOf(head.trim())) + "}";
        for (int i = begin; i < lines.size(); i++) {
            if (lines.get(i).equals(end)) {
                return i - begin + 1;
            }
        }
        return Integer.MAX_VALUE;
    }
}
