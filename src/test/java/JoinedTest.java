/** Promise 13: joined, over every kind of valve in every position. */
final class JoinedTest {
    public static void main(String[] args) {
        refusals();
        everyKind();
        pumps();
        tanksPassNothing();
        loops();
        Check.end("JoinedTest");
    }

    private static void refusals() {
        PlantGraph x = Check.plantOf("tank 1\npump\nvalve 7\ntank 1\ntank 1\npipe 4 0 1\npipe 0 3 1\npipe 1 2 1\n");
        Check.due("by numbers", x.joined(0, 0), 3);
        Check.due("by numbers", x.joined(0, 1), 4);
        int[] beyond = {2, -1, 40, Integer.MIN_VALUE, Integer.MAX_VALUE};
        for (int k : beyond) {
            Check.due("joined(0, " + k + ")", x.joined(0, k), Check.NONE);
        }
        int[] noTanks = {1, 2, 5, -1, 40, Integer.MIN_VALUE, Integer.MAX_VALUE};
        for (int thing : noTanks) {
            Check.due("joined(" + thing + ", 0)", x.joined(thing, 0), Check.NONE);
        }
    }

    /** What passes, as the document says it: for each kind and position the pairs of ports. */
    private static String passing(int kind, int p) {
        switch (kind) {
            case 0: return p == 1 ? "01 10" : "";
            case 1: return p == 0 ? "01 10" : p == 1 ? "02 20" : "";
            case 2: return p == 0 ? "01 10 02 20 12 21" : p == 1 ? "01 10" : p == 2 ? "02 20" : p == 3 ? "12 21" : "";
            case 3: return "01";
            case 4: return p == 0 ? "01 10 23 32" : p == 1 ? "01 02 03 10 12 13 20 21 23 30 31 32" : "";
            case 5: return "";
            case 6: return p == 0 ? "01 10 23 32" : p == 1 ? "03 30 12 21" : "";
            case 7: return p != 0 ? "01 10" : "";
            default: return p == 1 ? "01" : "";
        }
    }

    private static void everyKind() {
        int[] ports = {2, 3, 3, 2, 4, 1, 4, 2, 2};
        for (int kind = 0; kind < 9; kind++) {
            PlantGraph x = new PlantGraph();
            x.valve(kind);
            for (int port = 0; port < ports[kind]; port++) {
                x.tank(1);
                int a = port % 2 == 0 ? 0 : port + 1;
                x.pipe(a, port + 1 - a, 1);
            }
            for (int p = 0; p <= 9; p++) {
                if (p > 0) {
                    x.position(0, p);
                }
                for (int from = 0; from < ports[kind]; from++) {
                    StringBuilder due = new StringBuilder();
                    for (int to = 0; to < ports[kind]; to++) {
                        if (passing(kind, p).contains("" + from + to)) {
                            due.append(due.length() == 0 ? "" : " ").append(to + 1);
                        }
                    }
                    Check.due("kind " + kind + " position " + p + " from port " + from,
                            Check.tanksFrom(x, from + 1), due.toString());
                }
            }
        }
    }

    private static void pumps() {
        PlantGraph x = Check.plantOf("tank 1\npump\ntank 1\npipe 1 0 1\npipe 2 1 1\n");
        Check.due("from port 0 to port 1", Check.tanksFrom(x, 0), "2");
        Check.due("not back", Check.tanksFrom(x, 2), "");

        PlantGraph y = Check.plantOf("tank 1\npump\ntank 1\npump\npipe 0 1 1\npipe 1 2 1\n");
        Check.due("a pump of which one port is free", y.pipe(0, 3, 1), 2);
        Check.due("only over the first one", Check.tanksFrom(y, 0), "2");
    }

    private static void tanksPassNothing() {
        PlantGraph x = Check.plantOf("tank 1\ntank 1\ntank 1\npipe 0 1 1\npipe 1 2 1\n");
        Check.due("from 0", Check.tanksFrom(x, 0), "1");
        Check.due("from 1", Check.tanksFrom(x, 1), "0 2");
        Check.due("from 2", Check.tanksFrom(x, 2), "1");
        Check.due("no way to 2", x.move(0, 2, 1), -1);
    }

    private static void loops() {
        // A pipe with both ends at one valve: on the way with kind 6, beside it with kind 4 in position 1.
        PlantGraph x = Check.plantOf("tank 9\nvalve 6\ntank 9\npipe 0 1 1\npipe 1 1 1\npipe 1 2 1\n");
        Check.due("over the loop", Check.tanksFrom(x, 0), "2");
        Check.due("and back", Check.tanksFrom(x, 2), "0");
        x.position(1, 1);
        Check.due("past the loop", Check.tanksFrom(x, 0), "2");
        x.fill(0, 1, 9);
        x.move(0, 2, 2);
        Check.due("the loop is not on the way", x.content(1), 0);
        x.position(1, 0);
        x.move(0, 2, 2);
        Check.due("the loop is on the way", x.content(1), 1);

        // A pipe taken from A to B can't be taken back: tank 0's only pipe would be needed twice.
        PlantGraph y = Check.plantOf("tank 9\nvalve 1\ntank 9\npipe 0 1 1\npipe 1 - 1\npipe 1 2 1\n");
        Check.due("a blind end", Check.tanksFrom(y, 0), "");
        y.position(1, 1);
        Check.due("from 0", Check.tanksFrom(y, 0), "2");
    }
}
