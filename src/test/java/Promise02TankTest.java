/** Promise 2: tank. */
final class Promise02TankTest {
    private static final String SECTION = "Promise 2: tank";

    public static void main(String[] args) {
        itsNumber();
        otherLitres();
        full();
        Check.end("Promise02TankTest");
    }

    private static void itsNumber() {
        Check.sentence(SECTION, "A tank of so many litres (1 to 100,000), empty: its number.");
        long[] litres = {1, 2, 99999, 100000};
        PlantGraph x = new PlantGraph();
        for (int n = 0; n < litres.length; n++) {
            Check.due("tank " + litres[n], x.tank(litres[n]), n);
            Check.due("it is empty, and takes so many", Check.fillUp(x, n), litres[n]);
        }
        Check.due("the text", Check.written(x), "tank 1\ntank 2\ntank 99999\ntank 100000\n");

        PlantGraph y = new PlantGraph();
        Check.due("pump", y.pump(), 0);
        Check.due("tank", y.tank(1), 1);
        Check.due("tank", y.tank(1), 2);
        y.pipe(1, 2, 1);
        Check.due("an empty tank has no litre to move", y.move(1, 2, 1), 0);
    }

    private static void otherLitres() {
        Check.sentence(SECTION, "NONE, refused, for other litres");
        PlantGraph x = new PlantGraph();
        for (long litres : Check.outside(1L, 100000L)) {
            Check.due("tank " + litres, x.tank(litres), Check.NONE);
            Check.due("nothing came", x.write(0), Check.NONE);
        }
        Check.due("the least", x.tank(1), 0);
        Check.due("one less", x.tank(0), Check.NONE);
        Check.due("the most", x.tank(100000), 1);
        Check.due("one more", x.tank(100001), Check.NONE);
        Check.due("refused ones took no number", x.tank(5), 2);
    }

    private static void full() {
        Check.sentence(SECTION, "FULL.");
        PlantGraph x = new PlantGraph();
        for (int n = 0; n < 40; n++) {
            Check.due("tank " + n, x.tank(n + 1), n);
        }
        String before = Check.written(x);
        Check.due("the 41st", x.tank(1), Check.FULL);
        Check.due("once more", x.tank(100000), Check.FULL);
        for (long litres : Check.outside(1L, 100000L)) {
            Check.due("refused in a full plant, too", x.tank(litres), Check.NONE);
        }
        Check.due("nothing came", Check.written(x), before);
        Check.due("the last one is 39", Check.fillUp(x, 39), 40);
        Check.due("there is no 40", x.fill(40, 1, 1), false);
    }
}
