/** Terms: what valves of each kind, in each position, and pumps pass. */
final class TermsValvesTest {
    private static final String SECTION = "Terms";
    private static final String ALL_OF_3 = "01 10 02 20 12 21";
    private static final String ALL_OF_4 = "01 02 03 10 12 13 20 21 23 30 31 32";

    public static void main(String[] args) {
        Check.sentence(SECTION, "VALVES pass between ports, by kind (how many ports) and position (0 at first)");
        atFirst();
        Check.sentence(SECTION, "0 (2): 1: 0 - 1.");
        kind(0, 2, "", "01 10", "", "");
        Check.sentence(SECTION, "1 (3): 0: 0 - 1, 1: 0 - 2.");
        kind(1, 3, "01 10", "02 20", "", "");
        Check.sentence(SECTION, "2 (3): 0: all, 1: 0 - 1, 2: 0 - 2, 3: 1 - 2.");
        kind(2, 3, ALL_OF_3, "01 10", "02 20", "12 21");
        Check.sentence(SECTION, "3 (2): always from 0 to 1.");
        kind(3, 2, "01", "01", "01", "01");
        Check.sentence(SECTION, "4 (4): 0: 0 - 1 and 2 - 3, 1: all.");
        kind(4, 4, "01 10 23 32", ALL_OF_4, "", "");
        Check.sentence(SECTION, "5 (1): never.");
        never();
        Check.sentence(SECTION, "6 (4): 0: 0 - 1 and 2 - 3, 1: 0 - 3 and 1 - 2.");
        kind(6, 4, "01 10 23 32", "03 30 12 21", "", "");
        Check.sentence(SECTION, "7 (2): 0 - 1 in all positions but 0.");
        kind(7, 2, "", "01 10", "01 10", "01 10");
        Check.sentence(SECTION, "8 (2): 1: from 0 to 1.");
        kind(8, 2, "", "01", "", "");
        otherPositions();
        positions();
        bothWays();
        portsWithoutPipes();
        pump();
        Check.end("TermsValvesTest");
    }

    /** A thing with a tank at each of its ports: tank 1 at port 0, tank 2 at port 1, .. */
    private static PlantGraph star(String thing, int ports) {
        PlantGraph x = Check.plantOf(thing + "\n");
        for (int port = 0; port < ports; port++) {
            x.tank(1);
            int a = port % 2 == 0 ? 0 : port + 1;
            Check.due("a pipe at port " + port, x.pipe(a, port + 1 - a, 1), port);
        }
        return x;
    }

    private static void passing(String what, PlantGraph x, int ports, String pairs) {
        for (int from = 0; from < ports; from++) {
            StringBuilder due = new StringBuilder();
            for (int to = 0; to < ports; to++) {
                if (pairs.contains("" + from + to)) {
                    due.append(due.length() == 0 ? "" : " ").append(to + 1);
                }
            }
            Check.due(what + " from port " + from, Check.tanksFrom(x, from + 1), due.toString());
        }
    }

    /** What passes in positions 0, 1, 2 and 3; that in 3 is that in the rest for all but kind 2. */
    private static void kind(int kind, int ports, String in0, String in1, String in2, String in3) {
        PlantGraph x = star("valve " + kind, ports);
        Check.due("no more port", x.pipe(0, -1, 1), Check.NONE);
        String[] pairs = {in0, in1, in2, in3};
        passing("kind " + kind + " at first", x, ports, in0);
        for (int p = 9; p >= 0; p--) {
            x.position(0, p);
            String due = p < 4 ? pairs[p] : kind == 2 ? "" : in3;
            passing("kind " + kind + " position " + p, x, ports, due);
        }
    }

    private static void atFirst() {
        PlantGraph x = star("valve 1", 3);
        passing("0 at first", x, 3, "01 10");
        x.position(0, 1);
        passing("1", x, 3, "02 20");
        x.position(0, 0);
        passing("0 again", x, 3, "01 10");
        PlantGraph y = star("valve 7", 2);
        passing("0 at first", y, 2, "");
    }

    private static void never() {
        PlantGraph x = Check.plantOf("valve 5\ntank 1\ntank 1\npipe 1 0 1\n");
        Check.due("one port", x.pipe(0, 2, 1), Check.NONE);
        for (int p = 0; p <= 9; p++) {
            x.position(0, p);
            Check.due("kind 5 position " + p, Check.tanksFrom(x, 1), "");
            Check.due("kind 5 position " + p, Check.tanksFrom(x, 2), "");
        }
    }

    private static void otherPositions() {
        Check.sentence(SECTION, "In other positions they pass nothing.");
        int[] ports = {2, 3, 3, 0, 4, 0, 4};
        int[] last = {1, 1, 3, 0, 1, 0, 1};
        for (int kind = 0; kind < ports.length; kind++) {
            PlantGraph x = star("valve " + kind, ports[kind]);
            for (int p = last[kind] + 1; p <= 9; p++) {
                x.position(0, p);
                passing("kind " + kind + " position " + p, x, ports[kind], "");
            }
        }
        PlantGraph x = star("valve 0", 2);
        passing("kind 0 position 0", x, 2, "");
        PlantGraph y = star("valve 8", 2);
        passing("kind 8 position 0", y, 2, "");
        y.position(0, 2);
        passing("kind 8 position 2", y, 2, "");
    }

    private static void positions() {
        Check.sentence(SECTION, "Positions are 0 .. 9.");
        PlantGraph x = star("valve 7", 2);
        Check.due("9", x.position(0, 9), true);
        passing("position 9", x, 2, "01 10");
        Check.due("10", x.position(0, 10), false);
        Check.due("0", x.position(0, 0), true);
        Check.due("-1", x.position(0, -1), false);
        passing("position 0", x, 2, "");
    }

    private static void bothWays() {
        Check.sentence(SECTION, "a - b is both ways.");
        PlantGraph x = star("valve 1", 3);
        x.fill(1, 4, 1);
        Check.due("from 0 to 1", x.move(1, 2, 1), 1);
        x.fill(2, 5, 1);
        Check.due("from 1 to 0", x.move(2, 1, 1), 1);
    }

    private static void portsWithoutPipes() {
        Check.sentence(SECTION, "VALVES pass between ports");
        int[] ports = {2, 3, 3, 2, 4, 1, 4, 2, 2};
        for (int kind = 0; kind <= 8; kind++) {
            for (int p = 0; p <= 9; p++) {
                PlantGraph x = star("valve " + kind, 1);
                x.position(0, p);
                Check.due("no way to a port without a pipe", Check.tanksFrom(x, 1), "");
            }
            PlantGraph y = star("valve " + kind, ports[kind]);
            Check.due("a pipe at port 0 goes not back to port 0", y.move(1, 1, 1), -1);
        }
        PlantGraph z = Check.plantOf("valve 4\ntank 1\ntank 1\npipe 0 1 1\npipe 0 2 1\n");
        Check.due("two of four ports", Check.tanksFrom(z, 1), "2");

        // Pipe 0 and the plant before are not at the valve: no port without a pipe leads into them.
        PlantGraph w = Check.plantOf("valve 4\ntank 1\npipe 0 1 1\npipe 0 1 1\npipe 0 1 1\npipe 0 1 1\n");
        Check.readText(w, "pump\n");
        for (int kind = 0; kind <= 8; kind++) {
            Check.readText(w, "valve " + kind + "\ntank 1\ntank 1\ntank 1\npipe 1 2 1\npipe 3 0 1\n");
            for (int p = 0; p <= 9; p++) {
                w.position(0, p);
                Check.due("kind " + kind + " position " + p + ", one pipe", Check.tanksFrom(w, 3), "");
            }
        }
    }

    private static void pump() {
        Check.sentence(SECTION, "A PUMP passes from port 0 to port 1.");
        PlantGraph x = star("pump", 2);
        passing("pump", x, 2, "01");
        PlantGraph y = Check.plantOf("tank 1\npump\ntank 1\npipe 2 1 1\npipe 1 0 1\n");
        Check.due("the pipe that came first is at port 0", Check.tanksFrom(y, 2), "0");
        Check.due("not back", Check.tanksFrom(y, 0), "");
        PlantGraph z = star("pump", 1);
        Check.due("no pipe at port 1", Check.tanksFrom(z, 1), "");
    }
}
