import java.util.ArrayList;
import java.util.HashMap;
import java.util.List;
import java.util.Map;
import java.util.regex.Matcher;
import java.util.regex.Pattern;

/**
 * The document once more, as plainly as can be and in another manner than the program: all ways are
 * walked through (or, in a large plant, sought by distances from their end), litres go one by one, a
 * text's wrong byte is sought by trying each beginning of it.
 */
final class Model {
    private static final String NUMBER = "(?:0|[1-9][0-9]{0,6})";
    private static final String END = "(?:-|" + NUMBER + ")";
    private static final Pattern LINE = Pattern.compile(
            "tank " + NUMBER + "\n|pump\n|valve " + NUMBER + "\n|pipe " + END + " " + END + " " + NUMBER + "\n");

    // With more pipes there may be too many ways to walk through all of them.
    private static final int MOST_TO_WALK = 16;
    private static final int FAR = Integer.MAX_VALUE;

    static int mostPipesInWay = 0;

    private static final class Thing {
        String word;
        int kind;
        long capacity;
        long litres;
        int liquid;
        int position;
        int told = -1;
        List<End> ports = new ArrayList<>();

        int maxPorts() {
            return word.equals("tank") ? 1000 : word.equals("pump") ? 2 : new int[] {2, 3, 3, 2, 4, 1, 4, 2, 2}[kind];
        }
    }

    private static final class End {
        Pipe pipe;
        Thing thing;
        int at;
        End bend;

        End other() {
            return pipe.a == this ? pipe.b : pipe.a;
        }
    }

    private static final class Pipe {
        int number;
        End a = new End();
        End b = new End();
        List<Integer> litres = new ArrayList<>();
    }

    private List<Thing> things = new ArrayList<>();
    private List<Pipe> pipes = new ArrayList<>();
    private String text = "";
    private List<End> best;

    private Thing thing(int n) {
        return n >= 0 && n < things.size() ? things.get(n) : null;
    }

    private Thing thing(int n, String word) {
        Thing t = thing(n);
        return t != null && t.word.equals(word) ? t : null;
    }

    private int add(String word, int kind, long litres) {
        if (things.size() == 40) {
            return -2;
        }
        Thing t = new Thing();
        t.word = word;
        t.kind = kind;
        t.capacity = litres;
        things.add(t);
        return things.size() - 1;
    }

    int tank(long litres) {
        return litres < 1 || litres > 100000 ? -1 : add("tank", -1, litres);
    }

    int pump() {
        return add("pump", -1, 0);
    }

    int valve(int kind) {
        return kind < 0 || kind > 8 ? -1 : add("valve", kind, 0);
    }

    int pipe(int a, int b, long litres) {
        if (a != -1 && thing(a) == null || b != -1 && thing(b) == null || litres < 1 || litres > 200) {
            return -1;
        }
        if (a != -1 && thing(a).ports.size() + (a == b ? 2 : 1) > thing(a).maxPorts()) {
            return -1;
        }
        if (b != -1 && thing(b).ports.size() + 1 > thing(b).maxPorts()) {
            return -1;
        }
        if (pipes.size() == 60) {
            return -2;
        }
        Pipe p = new Pipe();
        p.number = pipes.size();
        pipes.add(p);
        join(p, p.a, a);
        join(p, p.b, b);
        for (int i = 0; i < litres; i++) {
            p.litres.add(0);
        }
        return p.number;
    }

    private void join(Pipe p, End end, int n) {
        end.pipe = p;
        end.at = n;
        end.thing = thing(n);
        if (end.thing != null) {
            end.thing.ports.add(end);
        }
    }

    int bend(int a, int b) {
        if (a < 0 || b < 0 || a >= pipes.size() || b >= pipes.size() || a == b) {
            return -1;
        }
        for (End end : new End[] {pipes.get(a).a, pipes.get(a).b}) {
            if (end.bend != null && end.bend.pipe == pipes.get(b)) {
                end.bend.bend = null;
                end.bend = null;
                return 0;
            }
        }
        End x = bendable(pipes.get(a));
        End y = bendable(pipes.get(b));
        if (x == null || y == null) {
            return -1;
        }
        x.bend = y;
        y.bend = x;
        return 1;
    }

    private static End bendable(Pipe p) {
        if (p.a.thing == null && p.b.thing == null) {
            End end = p.a.bend != null ? p.b : p.a;
            return end.bend == null ? end : null;
        }
        End free = p.a.thing == null ? p.a : p.b.thing == null ? p.b : null;
        return free != null && free.bend == null ? free : null;
    }

    /** -1 for a throw. */
    int position(int n, int p) {
        if (thing(n) == null) {
            return -1;
        }
        if (thing(n, "valve") == null || p < 0 || p > 9) {
            return 0;
        }
        thing(n).position = p;
        return 1;
    }

    boolean sensor(int n, int p) {
        if (thing(n, "valve") == null || p < 0 || p > 9) {
            return false;
        }
        thing(n).told = p;
        return true;
    }

    boolean unsure(int n) {
        Thing v = thing(n, "valve");
        return v != null && v.told != -1 && v.told != v.position;
    }

    int content(int n) {
        if (n < 0 || n >= pipes.size()) {
            return -1;
        }
        List<Integer> litres = pipes.get(n).litres;
        return litres.stream().distinct().count() == 1 ? litres.get(0) : 15;
    }

    boolean fill(int n, int liquid, long litres) {
        Thing t = thing(n, "tank");
        if (t == null || liquid < 1 || liquid > 14 || litres < 1 || litres > 100000 || t.litres + litres > t.capacity) {
            return false;
        }
        for (long i = 0; i < litres; i++) {
            come(t, liquid);
        }
        return true;
    }

    private static void come(Thing tank, int liquid) {
        tank.liquid = tank.litres == 0 || tank.liquid == liquid ? liquid : 15;
        tank.litres++;
    }

    private static String pairs(Thing t) {
        int p = t.position;
        if (t.word.equals("pump")) {
            return "01";
        }
        switch (t.kind) {
            case 0: return p == 1 ? "01 10" : "";
            case 1: return p == 0 ? "01 10" : p == 1 ? "02 20" : "";
            case 2: return p == 0 ? "01 10 02 20 12 21" : p == 1 ? "01 10" : p == 2 ? "02 20" : p == 3 ? "12 21" : "";
            case 3: return "01";
            case 4: return p == 0 ? "01 10 23 32" : p == 1 ? "01 02 03 10 12 13 20 21 23 30 31 32" : "";
            case 5: return "";
            case 6: return p == 0 ? "01 10 23 32" : p == 1 ? "03 30 12 21" : "";
            case 7: return p != 0 ? "01 10" : "";
            default: return p == 1 ? "01" : "";
        }
    }

    /** The ends into which a way goes on that has left a pipe at this end. */
    private static List<End> next(End end) {
        List<End> all = new ArrayList<>();
        if (end.bend != null) {
            all.add(end.bend);
        } else if (end.thing != null && !end.thing.word.equals("tank")) {
            List<End> ports = end.thing.ports;
            for (int to = 0; to < ports.size(); to++) {
                if (pairs(end.thing).contains("" + ports.indexOf(end) + to)) {
                    all.add(ports.get(to));
                }
            }
        }
        return all;
    }

    private void walk(List<End> way, End into, Thing to) {
        for (End gone : way) {
            if (gone.pipe == into.pipe) {
                return;
            }
        }
        End out = into.other();
        way.add(out);
        if (out.thing == to && isBetter(way)) {
            best = new ArrayList<>(way);
        }
        for (End end : next(out)) {
            walk(way, end, to);
        }
        way.remove(way.size() - 1);
    }

    private boolean isBetter(List<End> way) {
        if (best == null || way.size() != best.size()) {
            return best == null || way.size() < best.size();
        }
        for (int i = 0; i < way.size(); i++) {
            int difference = way.get(i).pipe.number - best.get(i).pipe.number;
            if (difference != 0) {
                return difference < 0;
            }
        }
        return false;
    }

    /** The ends at which THE WAY leaves its pipes, or null. */
    private List<End> way(Thing from, Thing to) {
        List<End> near = wayByDistances(from, to);
        if (pipes.size() > MOST_TO_WALK) {
            return near;
        }
        best = null;
        for (End port : from.ports) {
            walk(new ArrayList<>(), port, to);
        }
        Check.due("both manners find the same way", near == null ? best == null : near.equals(best), true);
        return best;
    }

    /** Where there are too many ways to walk through: at each pipe that of the lesser number which is near enough. */
    private List<End> wayByDistances(Thing from, Thing to) {
        Map<End, Integer> distances = distances(to);
        List<End> open = others(from.ports);
        int left = FAR;
        for (End out : open) {
            left = Math.min(left, distances.get(out));
        }
        if (left == FAR) {
            return null;
        }
        List<End> way = new ArrayList<>();
        for (; left > 0; left--) {
            End step = null;
            for (End out : open) {
                boolean near = distances.get(out) == left;
                step = near && (step == null || out.pipe.number < step.pipe.number) ? out : step;
            }
            for (End gone : way) {
                Check.due("no pipe is taken twice", gone.pipe == step.pipe, false);
            }
            way.add(step);
            open = others(next(step));
        }
        mostPipesInWay = Math.max(mostPipesInWay, way.size());
        return way;
    }

    /** How many pipes it takes at least to a tank for a way that leaves its pipe at an end, this pipe counted. */
    private Map<End, Integer> distances(Thing to) {
        Map<End, Integer> distances = new HashMap<>();
        for (Pipe pipe : pipes) {
            distances.put(pipe.a, pipe.a.thing == to ? 1 : FAR);
            distances.put(pipe.b, pipe.b.thing == to ? 1 : FAR);
        }
        boolean changed = true;
        while (changed) {
            changed = false;
            for (End end : distances.keySet()) {
                for (End out : others(next(end))) {
                    if (distances.get(out) != FAR && distances.get(out) + 1 < distances.get(end)) {
                        distances.put(end, distances.get(out) + 1);
                        changed = true;
                    }
                }
            }
        }
        return distances;
    }

    private static List<End> others(List<End> ends) {
        List<End> others = new ArrayList<>();
        for (End end : ends) {
            others.add(end.other());
        }
        return others;
    }

    long move(int from, int to, long litres) {
        Thing a = thing(from, "tank");
        Thing b = thing(to, "tank");
        if (a == null || b == null || a == b || litres < 1 || litres > 100000) {
            return -1;
        }
        List<End> way = way(a, b);
        if (way == null) {
            return -1;
        }
        long moved = 0;
        while (moved < litres && a.litres > 0 && moveOne(a, b, way)) {
            moved++;
        }
        return moved;
    }

    private static boolean moveOne(Thing a, Thing b, List<End> way) {
        End last = way.get(way.size() - 1);
        List<Integer> row = last.pipe.litres;
        int leaves = last == last.pipe.a ? row.get(0) : row.get(row.size() - 1);
        if (leaves != 0 && b.litres == b.capacity) {
            return false;
        }
        int carried = a.liquid;
        a.litres--;
        if (a.litres == 0) {
            a.liquid = 0;
        }
        for (End out : way) {
            List<Integer> litres = out.pipe.litres;
            if (out == out.pipe.a) {
                litres.add(carried);
                carried = litres.remove(0);
            } else {
                litres.add(0, carried);
                carried = litres.remove(litres.size() - 1);
            }
        }
        if (carried != 0) {
            come(b, carried);
        }
        return true;
    }

    int joined(int n, int k) {
        Thing from = thing(n, "tank");
        List<Integer> all = new ArrayList<>();
        for (int other = 0; from != null && other < things.size(); other++) {
            if (other != n && thing(other, "tank") != null && way(from, thing(other)) != null) {
                all.add(other);
            }
        }
        return k >= 0 && k < all.size() ? all.get(k) : -1;
    }

    boolean unit(int u) {
        if (u < 1 || u > 127 || text.length() == 2000) {
            return false;
        }
        text += (char) u;
        return true;
    }

    int read() {
        String given = text;
        text = "";
        for (int size = 1; size <= given.length(); size++) {
            if (!mayGoOn(given.substring(0, size))) {
                return -size;
            }
        }
        if (!given.isEmpty() && !given.endsWith("\n")) {
            return -1 - given.length();
        }
        Model read = new Model();
        read.takes(given);
        things = read.things;
        pipes = read.pipes;
        return things.size();
    }

    private static boolean mayGoOn(String beginning) {
        int lastLine = beginning.lastIndexOf('\n') + 1;
        String open = beginning.substring(lastLine);
        if (!open.isEmpty()) {
            Matcher m = LINE.matcher(open);
            return m.matches() || m.hitEnd();
        }
        return new Model().takes(beginning);
    }

    private boolean takes(String lines) {
        for (String line : lines.split("(?<=\n)")) {
            if (!line.isEmpty() && (!LINE.matcher(line).matches() || !takesLine(line.strip().split(" ")))) {
                return false;
            }
        }
        return true;
    }

    private boolean takesLine(String[] words) {
        switch (words[0]) {
            case "tank": return tank(Long.parseLong(words[1])) >= 0;
            case "pump": return pump() >= 0;
            case "valve": return valve(Integer.parseInt(words[1])) >= 0;
            default: return pipe(end(words[1]), end(words[2]), Long.parseLong(words[3])) >= 0;
        }
    }

    private static int end(String word) {
        return word.equals("-") ? -1 : Integer.parseInt(word);
    }

    String written() {
        StringBuilder all = new StringBuilder();
        for (Thing t : things) {
            all.append(t.word).append(t.word.equals("tank") ? " " + t.capacity : t.word.equals("valve") ? " " + t.kind : "");
            all.append('\n');
        }
        for (Pipe p : pipes) {
            all.append("pipe ").append(p.a.at == -1 ? "-" : "" + p.a.at).append(' ');
            all.append(p.b.at == -1 ? "-" : "" + p.b.at).append(' ').append(p.litres.size()).append('\n');
        }
        return all.toString();
    }

    int write(int i) {
        String all = written();
        return i >= 0 && i < all.length() ? all.charAt(i) : -1;
    }

    int thingCount() {
        return things.size();
    }

    int pipeCount() {
        return pipes.size();
    }
}
