/** Counts the answers that are not as due, and puts texts into a plant and out of it. */
final class Check {
    static final int NONE = -1;
    static final int FULL = -2;

    private static int wrong = 0;

    private Check() {
    }

    static void due(String what, long got, long want) {
        if (got != want) {
            wrong++;
            System.out.println(what + " answered " + got + ", due is " + want);
        }
    }

    static void due(String what, boolean got, boolean want) {
        due(what, got ? 1 : 0, want ? 1 : 0);
    }

    static void due(String what, String got, String want) {
        if (!got.equals(want)) {
            wrong++;
            System.out.println(what + " answered '" + got + "', due is '" + want + "'");
        }
    }

    static void end(String test) {
        System.out.println(test + ": " + (wrong == 0 ? "all answers are as due" : wrong + " answers are not as due"));
        if (wrong != 0) {
            System.exit(1);
        }
    }

    static PlantGraph plantOf(String text) {
        PlantGraph x = new PlantGraph();
        if (readText(x, text) < 0) {
            due("the text of a plant is right: " + text, false, true);
        }
        return x;
    }

    static int readText(PlantGraph x, String text) {
        give(x, text);
        return x.read();
    }

    static void give(PlantGraph x, String text) {
        for (int i = 0; i < text.length(); i++) {
            due("unit " + (int) text.charAt(i), x.unit(text.charAt(i)), true);
        }
    }

    static String written(PlantGraph x) {
        StringBuilder text = new StringBuilder();
        for (int i = 0; i < 5000; i++) {
            int b = x.write(i);
            if (b == NONE) {
                return text.toString();
            }
            text.append((char) b);
        }
        return text.toString();
    }

    /** The tanks to which there is a way from this one. */
    static String tanksFrom(PlantGraph x, int tank) {
        StringBuilder text = new StringBuilder();
        for (int k = 0; k < 50; k++) {
            int other = x.joined(tank, k);
            if (other == NONE) {
                return text.toString();
            }
            text.append(k == 0 ? "" : " ").append(other);
        }
        return text.toString();
    }

    static boolean positionThrows(PlantGraph x, int thing, int p) {
        try {
            x.position(thing, p);
            return false;
        } catch (IndexOutOfBoundsException e) {
            return true;
        }
    }
}
