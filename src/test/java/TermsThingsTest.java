/** Terms: things, pipes and ports. */
final class TermsThingsTest {
    private static final String SECTION = "Terms";

    public static void main(String[] args) {
        things();
        pipes();
        ends();
        portsInOrder();
        howManyPorts();
        Check.end("TermsThingsTest");
    }

    private static int add(PlantGraph x, int n) {
        return n % 3 == 0 ? x.tank(1) : n % 3 == 1 ? x.pump() : x.valve(0);
    }

    private static void things() {
        Check.sentence(SECTION, "THINGS are tanks, pumps and valves, numbered together from 0, at most 40");
        PlantGraph x = new PlantGraph();
        for (int n = 0; n < 40; n++) {
            Check.due("thing " + n, add(x, n), n);
        }
        for (int n = 0; n < 3; n++) {
            Check.due("the 41st", add(x, n), Check.FULL);
        }
        Check.due("pipes come still", x.pipe(39, 0, 1), 0);
        for (int n = 0; n < 3; n++) {
            PlantGraph y = Check.plantOf("pump\n".repeat(39));
            Check.due("the 40th", add(y, n), 39);
            Check.due("the 41st", add(y, n), Check.FULL);
        }
    }

    private static void pipes() {
        Check.sentence(SECTION, "PIPES are numbered from 0, at most 60, with 1 to 200 litres each and two ends, A and B");
        PlantGraph x = new PlantGraph();
        for (int n = 0; n < 60; n++) {
            Check.due("pipe " + n, x.pipe(-1, -1, 1 + n * 199 / 59), n);
        }
        Check.due("the 61st", x.pipe(-1, -1, 1), Check.FULL);
        Check.due("things come still", x.tank(1), 0);
        PlantGraph y = new PlantGraph();
        Check.due("0 litres", y.pipe(-1, -1, 0), Check.NONE);
        Check.due("1 litre", y.pipe(-1, -1, 1), 0);
        Check.due("200 litres", y.pipe(-1, -1, 200), 1);
        Check.due("201 litres", y.pipe(-1, -1, 201), Check.NONE);
        int[] litres = {1, 2, 199, 200};
        for (int l : litres) {
            PlantGraph z = Check.plantOf("tank 500\ntank 500\npipe 0 1 " + l + "\n");
            z.fill(0, 1, 500);
            z.fill(1, 2, 500);
            Check.due("a pipe takes its litres before one comes", z.move(0, 1, 500), l);
        }
    }

    private static void ends() {
        Check.sentence(SECTION, "an end is at a thing or free (NONE).");
        PlantGraph x = Check.plantOf("pump\n");
        Check.due("at a thing", x.pipe(0, -1, 1), 0);
        Check.due("NONE is -1", PlantGraph.NONE, -1);
        Check.due("free", x.pipe(PlantGraph.NONE, PlantGraph.NONE, 1), 1);
        Check.due("neither", x.pipe(1, -1, 1), Check.NONE);
        Check.due("neither", x.pipe(-2, -1, 1), Check.NONE);
        Check.due("an end at a thing is not free for a bend", x.bend(0, 1), 1);
        Check.due("the other one of pipe 0 is at the pump", x.bend(0, x.pipe(-1, -1, 1)), Check.NONE);
    }

    private static void portsInOrder() {
        Check.sentence(SECTION, "A thing's PORTS are the ends of pipes at it, in the order in which these came (of one pipe A before B)");
        // A valve of kind 3 passes from port 0 to port 1 alone.
        PlantGraph x = Check.plantOf("tank 1\ntank 1\nvalve 3\npipe 2 0 1\npipe 1 2 1\n");
        Check.due("tank 0's pipe came first", Check.tanksFrom(x, 0), "1");
        Check.due("tank 0's pipe came first", Check.tanksFrom(x, 1), "");
        PlantGraph y = Check.plantOf("tank 1\ntank 1\nvalve 3\npipe 1 2 1\npipe 2 0 1\n");
        Check.due("tank 1's pipe came first", Check.tanksFrom(y, 0), "");
        Check.due("tank 1's pipe came first", Check.tanksFrom(y, 1), "0");
        // Both ends of pipe 1 are at the valve: ports 1 and 2 of kind 6, which passes 0 - 1 and 2 - 3.
        PlantGraph z = Check.plantOf("tank 9\nvalve 6\ntank 9\npipe 0 1 1\npipe 1 1 2\npipe 1 2 1\n");
        z.fill(0, 1, 9);
        Check.due("over the loop", z.move(0, 2, 3), 3);
        Check.due("the loop is on the way", Check.contents(z), "1 1 0");
        z.position(1, 1);
        Check.due("past the loop, 0 - 3", z.move(0, 2, 1), 1);
        Check.due("past the loop, 0 - 3", Check.contents(z), "1 1 1");
    }

    private static void howManyPorts() {
        Check.sentence(SECTION, "a tank has any number of ports, a pump 2, a valve as many as its kind.");
        PlantGraph tank = Check.plantOf("tank 5\n");
        for (int n = 0; n < 60; n++) {
            Check.due("both ends of pipe " + n, tank.pipe(0, 0, 1), n);
        }
        ports("pump", 2);
        int[] ports = {2, 3, 3, 2, 4, 1, 4, 2, 2};
        for (int kind = 0; kind <= 8; kind++) {
            ports("valve " + kind, ports[kind]);
        }
    }

    private static void ports(String thing, int ports) {
        PlantGraph x = Check.plantOf(thing + "\n");
        for (int n = 0; n < ports; n++) {
            Check.due("port " + n + " of a " + thing, n % 2 == 0 ? x.pipe(0, -1, 1) : x.pipe(-1, 0, 1), n);
        }
        Check.due("one more of a " + thing, x.pipe(0, -1, 1), Check.NONE);
        Check.due("one more of a " + thing, x.pipe(-1, 0, 1), Check.NONE);
        PlantGraph y = Check.plantOf(thing + "\n");
        for (int n = 0; n < ports / 2; n++) {
            Check.due("two ports of a " + thing, y.pipe(0, 0, 1), n);
        }
        Check.due("two more of a " + thing, y.pipe(0, 0, 1), Check.NONE);
        Check.due("one more of a " + thing, y.pipe(0, -1, 1), ports % 2 == 1 ? ports / 2 : Check.NONE);
    }
}
