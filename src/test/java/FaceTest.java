import java.lang.reflect.Constructor;
import java.lang.reflect.Field;
import java.lang.reflect.Method;
import java.lang.reflect.Modifier;
import java.util.TreeSet;

/** The public face, and that nothing else of the class is seen from outside. */
final class FaceTest {
    public static void main(String[] args) {
        TreeSet<String> due = new TreeSet<>();
        String[] face = {
            "public static final int PlantGraph.NONE",
            "public static final int PlantGraph.FULL",
            "public PlantGraph()",
            "public int PlantGraph.tank(long)",
            "public int PlantGraph.pump()",
            "public int PlantGraph.valve(int)",
            "public int PlantGraph.pipe(int,int,long)",
            "public int PlantGraph.bend(int,int)",
            "public boolean PlantGraph.position(int,int) throws java.lang.IndexOutOfBoundsException",
            "public boolean PlantGraph.sensor(int,int)",
            "public boolean PlantGraph.unsure(int)",
            "public int PlantGraph.content(int)",
            "public boolean PlantGraph.fill(int,int,long)",
            "public long PlantGraph.move(int,int,long)",
            "public int PlantGraph.joined(int,int)",
            "public boolean PlantGraph.unit(int)",
            "public int PlantGraph.read()",
            "public int PlantGraph.write(int)"};
        for (String member : face) {
            due.add(member);
        }
        Check.due("the face", seen().toString(), due.toString());
        Check.due("final", Modifier.isFinal(PlantGraph.class.getModifiers()), true);
        Check.due("NONE", PlantGraph.NONE, -1);
        Check.due("FULL", PlantGraph.FULL, -2);
        privateMembers();
        Check.end("FaceTest");
    }

    private static TreeSet<String> seen() {
        TreeSet<String> seen = new TreeSet<>();
        for (Field f : PlantGraph.class.getDeclaredFields()) {
            if (!Modifier.isPrivate(f.getModifiers())) {
                seen.add(f.toString());
            }
        }
        for (Constructor<?> c : PlantGraph.class.getDeclaredConstructors()) {
            if (!Modifier.isPrivate(c.getModifiers())) {
                seen.add(c.toString());
            }
        }
        for (Method m : PlantGraph.class.getDeclaredMethods()) {
            if (!Modifier.isPrivate(m.getModifiers())) {
                seen.add(m.toString());
            }
        }
        return seen;
    }

    private static void privateMembers() {
        TreeSet<String> open = new TreeSet<>();
        for (Method m : PlantGraph.class.getDeclaredMethods()) {
            if (Modifier.isPublic(m.getModifiers())) {
                open.add(m.getName());
            }
        }
        for (Method m : PlantGraph.class.getDeclaredMethods()) {
            boolean hidden = Modifier.isPrivate(m.getModifiers());
            Check.due("a private " + m.getName(), hidden && open.contains(m.getName()), false);
        }
        for (Class<?> inside : PlantGraph.class.getDeclaredClasses()) {
            Check.due(inside + " is static", Modifier.isStatic(inside.getModifiers()), true);
            for (Method m : inside.getDeclaredMethods()) {
                Check.due(inside + " has " + m.getName(), open.contains(m.getName()), false);
            }
        }
    }
}
