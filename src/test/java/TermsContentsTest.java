/** Terms: contents of pipes and tanks. */
final class TermsContentsTest {
    private static final String SECTION = "Terms";
    private static final String TEXT = "tank 9\ntank 9\npipe 0 1 1\n";

    public static void main(String[] args) {
        litresOfPipes();
        oneLiquid();
        anotherOneComes();
        noLiquid();
        Check.end("TermsContentsTest");
    }

    private static int firstLitreOf(PlantGraph x) {
        Check.due("a litre", x.move(0, 1, 1), 1);
        return x.content(0);
    }

    private static void litresOfPipes() {
        Check.sentence(SECTION, "CONTENTS: each litre of a pipe is of a liquid, 1 .. 14, mixed (15), or empty (0, at first).");
        PlantGraph x = Check.plantOf(TEXT);
        Check.due("empty at first", x.content(0), 0);
        for (int liquid = 1; liquid <= 14; liquid++) {
            PlantGraph y = Check.plantOf(TEXT);
            Check.due("fill", y.fill(0, liquid, 1), true);
            Check.due("a litre of " + liquid, firstLitreOf(y), liquid);
        }
        Check.due("0 is no liquid", x.fill(0, 0, 1), false);
        Check.due("15 is no liquid", x.fill(0, 15, 1), false);
        x.fill(0, 1, 1);
        x.fill(0, 14, 1);
        Check.due("a mixed litre", firstLitreOf(x), 15);
    }

    private static void oneLiquid() {
        Check.sentence(SECTION, "A tank has litres of one liquid");
        PlantGraph x = Check.plantOf(TEXT);
        x.fill(0, 14, 2);
        x.fill(0, 14, 1);
        for (int n = 0; n < 3; n++) {
            Check.due("each litre", firstLitreOf(x), 14);
        }
        Check.due("two of them came", Check.fillUp(x, 1), 7);
    }

    private static void anotherOneComes() {
        Check.sentence(SECTION, "a litre of another one that comes makes all of it mixed");
        for (int other = 1; other <= 14; other++) {
            PlantGraph x = Check.plantOf(TEXT);
            x.fill(0, 7, 8);
            x.fill(0, other, 1);
            for (int n = 0; n < 9; n++) {
                Check.due("each of 8 litres of 7 and one of " + other, firstLitreOf(x), other == 7 ? 7 : 15);
            }
        }
        PlantGraph y = Check.plantOf(TEXT);
        y.fill(0, 3, 1);
        y.fill(0, 4, 1);
        y.fill(0, 4, 7);
        Check.due("mixed stays mixed", firstLitreOf(y), 15);

        // What a pipe brings: 1 to a tank of 2, then a mixed litre to a tank of 3.
        PlantGraph z = Check.plantOf("tank 9\ntank 9\ntank 9\npipe 0 1 1\npipe 1 2 1\n");
        z.fill(0, 1, 2);
        z.fill(1, 2, 2);
        z.move(0, 1, 2);
        z.move(1, 2, 1);
        Check.due("1 came to a tank of 2", z.content(1), 15);
        z.fill(2, 3, 1);
        z.move(1, 2, 1);
        z.move(2, 1, 1);
        Check.due("a mixed litre came to a tank of 3", z.content(1), 15);

        PlantGraph w = Check.plantOf("tank 9\ntank 9\ntank 9\npipe 0 1 1\npipe 1 2 1\n");
        w.fill(0, 1, 1);
        w.fill(0, 2, 2);
        w.move(0, 1, 2);
        w.move(1, 2, 1);
        Check.due("a mixed litre came to a tank that had none", w.content(1), 15);
    }

    private static void noLiquid() {
        Check.sentence(SECTION, "when it has none it has no liquid (0).");
        PlantGraph x = Check.plantOf(TEXT);
        x.fill(0, 3, 1);
        Check.due("the only litre", firstLitreOf(x), 3);
        x.fill(0, 4, 1);
        Check.due("the tank was empty", firstLitreOf(x), 4);
        x.fill(0, 5, 2);
        x.fill(0, 6, 1);
        Check.due("mixed", firstLitreOf(x), 15);
        Check.due("all of it", x.move(0, 1, 9), 2);
        x.fill(0, 2, 1);
        Check.due("the tank was empty again", firstLitreOf(x), 2);
        x.fill(0, 8, 2);
        Check.due("one of two", firstLitreOf(x), 8);
        x.fill(0, 9, 1);
        Check.due("one was left, so it is mixed", firstLitreOf(x), 15);
    }
}
