import java.lang.reflect.Array;
import java.lang.reflect.Field;
import java.lang.reflect.Modifier;
import java.nio.file.Files;
import java.nio.file.Path;
import java.util.ArrayDeque;
import java.util.IdentityHashMap;

/** The room: even a run of nothing but constructors has space, and no later call makes an object. */
final class RoomTest {
    public static void main(String[] args) throws Exception {
        long[] size = sizeOf(new PlantGraph());
        System.out.println("an object is " + size[0] + " objects and arrays, " + size[1] + " fields and elements");
        Check.due("512 objects have space", size[0] * 512 < 600000 && size[1] * 512 < 7300000, true);
        nothingIsMadeLater();
        Check.end("RoomTest");
    }

    private static long[] sizeOf(Object first) throws Exception {
        IdentityHashMap<Object, Boolean> seen = new IdentityHashMap<>();
        ArrayDeque<Object> open = new ArrayDeque<>();
        open.add(first);
        seen.put(first, true);
        long elements = 0;
        while (!open.isEmpty()) {
            Object x = open.remove();
            if (x.getClass().isArray()) {
                elements += Array.getLength(x);
                continue;
            }
            for (Field f : x.getClass().getDeclaredFields()) {
                if (Modifier.isStatic(f.getModifiers())) {
                    continue;
                }
                elements++;
                f.setAccessible(true);
                Object inside = f.getType().isPrimitive() ? null : f.get(x);
                if (inside != null && seen.put(inside, true) == null) {
                    open.add(inside);
                }
            }
        }
        return new long[] {seen.size(), elements};
    }

    /** 'new' stands only in a field's line or in a throw. */
    private static void nothingIsMadeLater() throws Exception {
        for (String row : Files.readAllLines(Path.of("src/main/java/PlantGraph.java"))) {
            boolean comment = row.strip().startsWith("*") || row.strip().startsWith("//") || row.strip().startsWith("/*");
            if (!comment && row.contains(" new ")) {
                boolean fine = row.strip().startsWith("private ") || row.strip().startsWith("throw ");
                Check.due("'" + row.strip() + "' is in a field's line or a throw", fine, true);
            }
        }
    }
}
