/**
 * Counts the answers that are not as due, sentence by sentence of the document, and holds what most
 * tests need: numbers outside of a range, texts into a plant and out of it.
 */
final class Check {
    static final int NONE = -1;
    static final int FULL = -2;

    private static int wrong = 0;
    private static int wrongBefore = 0;
    private static String sentence = null;

    private Check() {
    }

    /** From here on, answers are due by this sentence, which stands in this section of the document. */
    static void sentence(String section, String quote) {
        closeSentence();
        sentence = section + ": \"" + quote + "\"";
    }

    private static void closeSentence() {
        if (sentence != null) {
            System.out.println((wrong == wrongBefore ? "  holds   " : "  BROKEN  ") + sentence);
        }
        sentence = null;
        wrongBefore = wrong;
    }

    static void due(String what, long got, long want) {
        if (got != want) {
            wrong++;
            System.out.println(what + " answered " + got + ", due is " + want);
        }
    }

    static void due(String what, boolean got, boolean want) {
        due(what, got ? 1 : 0, want ? 1 : 0);
    }

    static void due(String what, String got, String want) {
        if (!got.equals(want)) {
            wrong++;
            System.out.println(what + " answered '" + got + "', due is '" + want + "'");
        }
    }

    static void end(String test) {
        closeSentence();
        System.out.println(test + ": " + (wrong == 0 ? "all answers are as due" : wrong + " answers are not as due"));
        if (wrong != 0) {
            System.exit(1);
        }
    }

    /** Numbers that are not least .. most: the next ones on either side, and the furthest. */
    static int[] outside(int least, int most) {
        return new int[] {least - 1, most + 1, least - 2, most + 2, Integer.MIN_VALUE, Integer.MAX_VALUE,
            1 << 30, (1 << 30) + least, Integer.MIN_VALUE + least};
    }

    /** The same for longs, with those that would be inside once they are cut to an int. */
    static long[] outside(long least, long most) {
        return new long[] {least - 1, most + 1, least - 2, most + 2, Integer.MIN_VALUE, Integer.MAX_VALUE,
            Long.MIN_VALUE, Long.MAX_VALUE, (1L << 32) + least, (1L << 32) + most, least - (1L << 32),
            Long.MIN_VALUE + least};
    }

    static PlantGraph plantOf(String text) {
        PlantGraph x = new PlantGraph();
        if (readText(x, text) < 0) {
            due("the text of a plant is right: " + text, false, true);
        }
        return x;
    }

    /** A plant of so many pipes with free ends: put in by calls, since their text would take more than 512. */
    static PlantGraph freePipes(int pipes) {
        PlantGraph x = new PlantGraph();
        for (int n = 0; n < pipes; n++) {
            due("pipe " + n, x.pipe(NONE, NONE, 1), n);
        }
        return x;
    }

    static int readText(PlantGraph x, String text) {
        give(x, text);
        return x.read();
    }

    static void give(PlantGraph x, String text) {
        for (int i = 0; i < text.length(); i++) {
            due("unit " + (int) text.charAt(i), x.unit(text.charAt(i)), true);
        }
    }

    static String written(PlantGraph x) {
        StringBuilder text = new StringBuilder();
        for (int i = 0; i < 5000; i++) {
            int b = x.write(i);
            if (b == NONE) {
                return text.toString();
            }
            text.append((char) b);
        }
        return text.toString();
    }

    /** The tanks to which there is a way from this one. */
    static String tanksFrom(PlantGraph x, int tank) {
        StringBuilder text = new StringBuilder();
        for (int k = 0; k < 50; k++) {
            int other = x.joined(tank, k);
            if (other == NONE) {
                return text.toString();
            }
            text.append(k == 0 ? "" : " ").append(other);
        }
        return text.toString();
    }

    /** What is in the pipes, by numbers. */
    static String contents(PlantGraph x) {
        StringBuilder text = new StringBuilder();
        for (int pipe = 0; x.content(pipe) != NONE; pipe++) {
            text.append(pipe == 0 ? "" : " ").append(x.content(pipe));
        }
        return text.toString();
    }

    /** How many litres a tank still takes. All of them are filled in, so it is full then. */
    static long fillUp(PlantGraph x, int tank) {
        long litres = 0;
        for (long step = 1 << 16; step >= 1; step /= 2) {
            litres += x.fill(tank, 1, step) ? step : 0;
        }
        return litres;
    }

    static boolean positionThrows(PlantGraph x, int thing, int p) {
        try {
            x.position(thing, p);
            return false;
        } catch (IndexOutOfBoundsException e) {
            return true;
        }
    }
}
