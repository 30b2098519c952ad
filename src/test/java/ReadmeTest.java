import java.lang.reflect.Method;
import java.lang.reflect.Modifier;
import java.nio.file.Files;
import java.nio.file.Path;
import java.util.ArrayList;
import java.util.List;
import java.util.regex.Matcher;
import java.util.regex.Pattern;

/** The calls in README.md answer what stands behind them there, and each call of the face is told of. */
final class ReadmeTest {
    private static final Pattern CALL = Pattern.compile("\\s*(plant\\.\\w+\\(.*\\));\\s*// ([^,\\s]+).*");

    private static PlantGraph plant;
    private static final List<String> made = new ArrayList<>();

    public static void main(String[] args) throws Exception {
        String readme = Files.readString(Path.of("README.md"));
        waysAndLitres();
        bends();
        texts();
        List<String> told = told(readme);
        Check.due("calls in README.md", told.size(), made.size());
        for (int n = 0; n < told.size() && n < made.size(); n++) {
            Check.due("call " + n + " of README.md", told.get(n), made.get(n));
        }
        for (Method m : PlantGraph.class.getDeclaredMethods()) {
            boolean open = Modifier.isPublic(m.getModifiers());
            Check.due("README.md tells of " + m.getName(), !open || readme.contains("| `" + m.getName() + "("), true);
        }
        Check.due("README.md tells how to run the tests", readme.contains("    .ci/run\n"), true);
        Check.end("ReadmeTest");
    }

    /** Every line of the examples that begins with a call, with its answer. */
    private static List<String> told(String readme) {
        List<String> told = new ArrayList<>();
        boolean inExample = false;
        for (String line : readme.split("\n")) {
            inExample = line.startsWith("```") ? line.equals("```java") : inExample;
            if (inExample && line.strip().startsWith("plant.")) {
                Matcher call = CALL.matcher(line);
                told.add(call.matches() ? call.group(1) + " is " + call.group(2) : "no answer in " + line);
            }
        }
        return told;
    }

    private static void made(String call, Object answer) {
        made.add("plant." + call + " is " + answer);
    }

    private static void waysAndLitres() {
        plant = new PlantGraph();
        made("tank(50)", plant.tank(50));
        made("tank(30)", plant.tank(30));
        made("valve(0)", plant.valve(0));
        made("pipe(0, 2, 3)", plant.pipe(0, 2, 3));
        made("pipe(2, 1, 2)", plant.pipe(2, 1, 2));
        made("joined(0, 0)", plant.joined(0, 0));
        made("position(2, 1)", plant.position(2, 1));
        made("joined(0, 0)", plant.joined(0, 0));
        made("joined(0, 1)", plant.joined(0, 1));
        made("fill(0, 3, 20)", plant.fill(0, 3, 20));
        made("move(0, 1, 4)", plant.move(0, 1, 4));
        made("content(0)", plant.content(0));
        made("content(1)", plant.content(1));
        made("move(0, 1, 100)", plant.move(0, 1, 100));
        made("sensor(2, 0)", plant.sensor(2, 0));
        made("unsure(2)", plant.unsure(2));
    }

    private static void bends() {
        plant = new PlantGraph();
        made("tank(9)", plant.tank(9));
        made("pump()", plant.pump());
        made("tank(9)", plant.tank(9));
        made("pipe(0, 1, 1)", plant.pipe(0, 1, 1));
        made("pipe(1, PlantGraph.NONE, 1)", plant.pipe(1, PlantGraph.NONE, 1));
        made("pipe(PlantGraph.NONE, 2, 1)", plant.pipe(PlantGraph.NONE, 2, 1));
        made("bend(1, 2)", plant.bend(1, 2));
        made("joined(0, 0)", plant.joined(0, 0));
        made("joined(2, 0)", plant.joined(2, 0));
        made("bend(2, 1)", plant.bend(2, 1));
    }

    private static void texts() {
        plant = new PlantGraph();
        boolean all = true;
        for (char c : "tank 9\npipe 0 - 5\n".toCharArray()) {
            all = plant.unit(c) && all;
        }
        made("unit(c)", all);
        made("read()", plant.read());
        made("write(0)", plant.write(0));
        made("write(17)", plant.write(17));
        made("write(18)", plant.write(18));
        made("unit('x')", plant.unit('x'));
        made("read()", plant.read());
    }
}
