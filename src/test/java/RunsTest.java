import java.io.IOException;
import java.lang.reflect.InvocationTargetException;
import java.lang.reflect.Method;
import java.nio.file.DirectoryStream;
import java.nio.file.Files;
import java.nio.file.Path;
import java.util.HashMap;
import java.util.Map;

/**
 * Replays the runs under src/test/runs: "new" makes an object, each other line is a call, " = " and the answer
 * that is due. They were written by a second, plainer program that follows the document word by word; those in rich.txt
 * by a third one, which counts otherwise where that can be done (eigenvalues, chains without any move before them), and
 * those in deep.txt by a fourth one (equal braids by what they do to a free group), which agrees with all the others.
 */
public final class RunsTest {
    private static final Bench BENCH = new Bench();
    private static final Map<String, Method> FACE = new HashMap<>();

    public static void main(String[] args) throws IOException {
        for (Method method : KnotHouse.class.getMethods()) {
            if (method.getDeclaringClass() == KnotHouse.class) {
                FACE.put(method.getName(), method);
            }
        }
        int files = 0;
        try (DirectoryStream<Path> all = Files.newDirectoryStream(Path.of("src/test/runs"), "*.txt")) {
            for (Path file : all) {
                replay(file);
                files++;
            }
        }
        BENCH.due("there are files", true, files > 0 ? () -> true : () -> false);
        BENCH.finish();
    }

    private static void replay(Path file) throws IOException {
        KnotHouse house = new KnotHouse();
        int number = 0;
        for (String line : Files.readAllLines(file)) {
            number++;
            if (line.equals("new")) {
                house = new KnotHouse();
                continue;
            }
            String[] halves = line.split(" = ");
            KnotHouse now = house;
            BENCH.due(file.getFileName() + ":" + number + " " + halves[0], halves[1], () -> answer(now, halves[0]));
        }
    }

    private static Object answer(KnotHouse house, String call) {
        String[] words = call.split(" ");
        Method method = FACE.get(words[0]);
        Object[] numbers = new Object[words.length - 1];
        for (int i = 0; i < numbers.length; i++) {
            numbers[i] = Integer.valueOf(words[i + 1]);
        }
        try {
            Object got = method.invoke(house, numbers);
            if (got instanceof Boolean yes) {
                return yes ? 1 : 0;
            }
            return got == null ? "void" : got;
        } catch (InvocationTargetException e) {
            return "throws." + e.getCause().getClass().getSimpleName();
        } catch (IllegalAccessException e) {
            return "no such call";
        }
    }
}
