import java.io.IOException;
import java.lang.reflect.Method;
import java.nio.charset.StandardCharsets;
import java.nio.file.Files;
import java.nio.file.Path;
import java.util.ArrayList;
import java.util.List;

/** The example of README.md: its calls are these, and they answer what is written beside them. */
final class ReadmeTest {
    private static final String CALL = "garden.";

    public static void main(String[] args) throws IOException {
        List<String> lines = new ArrayList<>();
        for (String line : Files.readAllLines(Path.of("README.md"), StandardCharsets.UTF_8)) {
            if (line.startsWith(CALL)) {
                lines.add(line);
            }
        }
        HedgeGliders garden = new HedgeGliders();
        Object[][] due = {
            {"setEdge(true)", garden.setEdge(true)},
            {"setRules(8, 12)", garden.setRules(8, 12)},
            {"plant(0, 0, 1, 1)", garden.plant(0, 0, 1, 1)},
            {"glides(0)", garden.glides(0)},
            {"glides(1)", garden.glides(1)},
            {"period(1)", garden.period(1)},
            {"pass(4)", garden.pass(4)},
            {"told(3, 2, 0)", garden.told(3, 2, 0)},
            {"count(7)", garden.count(7)},
            {"foresee(50, 3)", garden.foresee(50, 3)},
            {"mean()", garden.mean()},
        };
        Check.due("README's calls", due.length, lines.size());
        for (int i = 0; i < due.length && i < lines.size(); i++) {
            String[] parts = lines.get(i).split("; +// ");
            Check.due("README's call " + i, CALL + due[i][0], parts[0]);
            Check.due("README's answer to " + due[i][0], parts[1].split("[:;]")[0], "" + due[i][1]);
        }
        namesEachCall();
        Check.end();
    }

    private static void namesEachCall() throws IOException {
        String text = Files.readString(Path.of("README.md"), StandardCharsets.UTF_8);
        for (Method method : HedgeGliders.class.getMethods()) {
            if (method.getDeclaringClass() == HedgeGliders.class) {
                boolean named = text.contains("| `" + method.getName() + "(");
                Check.due("README names " + method.getName(), 1, named ? 1 : 0);
            }
        }
    }
}
