/** Promise 3: pump. */
final class Promise03PumpTest {
    private static final String SECTION = "Promise 3: pump";

    public static void main(String[] args) {
        Check.sentence(SECTION, "A pump: its number; FULL.");
        PlantGraph x = new PlantGraph();
        for (int n = 0; n < 40; n++) {
            Check.due("pump " + n, x.pump(), n);
        }
        Check.due("the 41st", x.pump(), Check.FULL);
        Check.due("once more", x.pump(), Check.FULL);
        Check.due("the text", Check.written(x), "pump\n".repeat(40));
        Check.due("39 is one", x.pipe(39, -1, 1), 0);
        Check.due("40 is none", x.pipe(40, -1, 1), Check.NONE);

        PlantGraph y = Check.plantOf("tank 9\nvalve 0\n");
        Check.due("things are numbered together", y.pump(), 2);
        Check.due("it is no tank", y.fill(2, 1, 1), false);
        Check.due("it is no valve", y.sensor(2, 0), false);
        Check.end("Promise03PumpTest");
    }
}
