/** Promise 16: write. */
final class Promise16WriteTest {
    private static final String SECTION = "Promise 16: write";

    public static void main(String[] args) {
        everyByte();
        none();
        Check.end("Promise16WriteTest");
    }

    /** A plant with 40 things and 60 pipes. */
    private static String fullText() {
        StringBuilder text = new StringBuilder();
        for (int n = 0; n < 40; n++) {
            text.append(n < 9 ? "valve " + n : n == 9 ? "pump" : n == 10 ? "tank 100000" : "tank " + (n * 1001 - 11000));
            text.append('\n');
        }
        for (int n = 0; n < 60; n++) {
            String a = n % 7 == 0 ? "-" : "" + (10 + n % 30);
            String b = n % 5 == 0 ? "-" : n < 9 ? "" + n : "" + (39 - n % 29);
            text.append("pipe ").append(a).append(' ').append(b).append(' ').append(n == 59 ? 200 : n + 1).append('\n');
        }
        return text.toString();
    }

    private static void everyByte() {
        Check.sentence(SECTION,
                "Byte i of the text of the plant: its things by numbers, then its pipes by numbers, a line each.");
        PlantGraph x = Check.plantOf(fullText());
        Check.due("what was read is written", Check.written(x), fullText());
        Check.due("read again", Check.readText(x, Check.written(x)), 40);
        Check.due("written again", Check.written(x), fullText());

        PlantGraph y = new PlantGraph();
        y.pipe(-1, -1, 1);
        y.tank(10);
        y.pipe(0, -1, 200);
        y.pump();
        y.valve(8);
        y.pipe(-1, 2, 19);
        String due = "tank 10\npump\nvalve 8\npipe - - 1\npipe 0 - 200\npipe - 2 19\n";
        Check.due("things come before pipes", Check.written(y), due);
        for (int i = due.length() - 1; i >= 0; i--) {
            Check.due("byte " + i, y.write(i), due.charAt(i));
        }
        y.bend(0, 1);
        y.fill(0, 1, 5);
        y.position(2, 1);
        y.sensor(2, 5);
        Check.give(y, "pump\n");
        Check.due("nothing but things and pipes is in it", Check.written(y), due);
        y.tank(1);
        Check.due("one more thing", Check.written(y), due.replace("valve 8\n", "valve 8\ntank 1\n"));
        numbers();
        longestLines();
    }

    private static void numbers() {
        int[] litres = {1, 9, 10, 11, 99, 100, 101, 999, 1000, 1001, 9999, 10000, 10001, 99999, 100000};
        for (int l : litres) {
            PlantGraph x = new PlantGraph();
            x.tank(l);
            Check.due("tank", Check.written(x), "tank " + l + "\n");
        }
        PlantGraph y = new PlantGraph();
        StringBuilder due = new StringBuilder();
        for (int n = 0; n < 12; n++) {
            y.tank(1);
            due.append("tank 1\n");
        }
        int[] ends = {0, 9, 10, 11};
        for (int end : ends) {
            y.pipe(end, -1, 100);
            due.append("pipe " + end + " - 100\n");
        }
        Check.due("ends", Check.written(y), due.toString());
    }

    private static void longestLines() {
        PlantGraph x = new PlantGraph();
        for (int n = 0; n < 40; n++) {
            x.tank(100000);
        }
        for (int n = 0; n < 60; n++) {
            x.pipe(39, 38, 200);
        }
        String due = "tank 100000\n".repeat(40) + "pipe 39 38 200\n".repeat(60);
        Check.due("the longest text", Check.written(x), due);
        Check.due("its last byte", x.write(1379), 10);
        Check.due("behind it", x.write(1380), Check.NONE);
    }

    private static void none() {
        Check.sentence(SECTION, "NONE.");
        Check.due("an empty plant", new PlantGraph().write(0), Check.NONE);
        PlantGraph x = Check.plantOf("tank 5\npipe 0 - 1\n");
        Check.due("the first byte", x.write(0), 't');
        Check.due("the last byte", x.write(17), 10);
        for (int i : Check.outside(0, 17)) {
            Check.due("write " + i, x.write(i), Check.NONE);
        }
        x.read();
        Check.due("an empty plant again", x.write(0), Check.NONE);
    }
}
