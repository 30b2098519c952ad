/** Promise 13: joined. */
final class Promise13JoinedTest {
    private static final String SECTION = "Promise 13: joined";
    private static final String TEXT = "tank 1\npump\nvalve 7\ntank 1\ntank 1\ntank 1\n"
            + "pipe 4 0 1\npipe 0 3 1\npipe 1 2 1\npipe 0 1 1\n";

    public static void main(String[] args) {
        byNumbers();
        none();
        Check.end("Promise13JoinedTest");
    }

    private static void byNumbers() {
        Check.sentence(SECTION, "Thing k, from 0, by numbers, of the tanks to which there is a way from this tank.");
        PlantGraph x = Check.plantOf(TEXT);
        Check.due("k 0", x.joined(0, 0), 3);
        Check.due("k 1", x.joined(0, 1), 4);
        Check.due("from 3", Check.tanksFrom(x, 3), "0");
        Check.due("from 4", Check.tanksFrom(x, 4), "0");
        Check.due("a tank without pipes", Check.tanksFrom(x, 5), "");

        PlantGraph twice = Check.plantOf("tank 1\ntank 1\npipe 0 1 1\npipe 1 0 1\n");
        Check.due("two ways to one tank", Check.tanksFrom(twice, 0), "1");
        PlantGraph itself = Check.plantOf("tank 1\ntank 1\npipe 0 0 1\npipe 0 1 1\n");
        Check.due("a way goes to another tank", Check.tanksFrom(itself, 0), "1");
        PlantGraph alone = Check.plantOf("tank 1\npipe 0 0 1\n");
        Check.due("a way goes to another tank", Check.tanksFrom(alone, 0), "");
        PlantGraph oneWay = Check.plantOf("tank 1\ntank 1\npump\npipe 0 2 1\npipe 2 1 1\n");
        Check.due("from 0", Check.tanksFrom(oneWay, 0), "1");
        Check.due("from 1", Check.tanksFrom(oneWay, 1), "");

        PlantGraph all = new PlantGraph();
        StringBuilder others = new StringBuilder("0");
        for (int n = 0; n < 40; n++) {
            all.tank(1);
            others.append(n > 0 && n < 39 ? " " + n : "");
        }
        for (int n = 38; n >= 0; n--) {
            all.pipe(39, n, 1);
        }
        Check.due("39 other tanks", Check.tanksFrom(all, 39), others.toString());
        Check.due("k 38", all.joined(39, 38), 38);
        Check.due("k 39", all.joined(39, 39), Check.NONE);
        Check.due("from one of them", Check.tanksFrom(all, 17), "39");
    }

    private static void none() {
        Check.sentence(SECTION, "NONE.");
        PlantGraph x = Check.plantOf(TEXT);
        for (int k : Check.outside(0, 1)) {
            Check.due("joined(0, " + k + ")", x.joined(0, k), Check.NONE);
        }
        for (int thing : Check.outside(0, 5)) {
            Check.due("joined(" + thing + ", 0)", x.joined(thing, 0), Check.NONE);
        }
        Check.due("from a pump", x.joined(1, 0), Check.NONE);
        Check.due("from a valve", x.joined(2, 0), Check.NONE);
        Check.due("from a tank without pipes", x.joined(5, 0), Check.NONE);
        Check.due("in a new object", new PlantGraph().joined(0, 0), Check.NONE);
    }
}
