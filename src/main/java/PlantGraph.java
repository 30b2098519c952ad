import java.util.Arrays;

/**
 * A plant of tanks, pumps, valves, pipes and bends: what is joined, what is in the pipes litre by
 * litre, and the plant's text both ways.
 *
 * Every row is made in the constructor and used again, so that no later call makes an object.
 */
public final class PlantGraph {
    public static final int NONE = -1;
    public static final int FULL = -2;

    private static final int MAX_THINGS = 40;
    private static final int MAX_PIPES = 60;
    private static final int MAX_ENDS = 2 * MAX_PIPES;
    private static final int MAX_PORTS = 4;
    private static final int MAX_PIPE_LITRES = 200;
    private static final int MAX_TANK_LITRES = 100000;
    private static final int MAX_LITRES = MAX_PIPES * MAX_PIPE_LITRES;
    private static final int MAX_TEXT = 2000;
    private static final int MAX_DIGITS = 7;
    private static final int LAST_POSITION = 9;
    private static final int LAST_LIQUID = 14;
    private static final int MIXED = 15;
    private static final int EMPTY = 0;

    // Pumps and tanks carry on the numbers of the valves' kinds, so that one row tells what a thing is.
    private static final int VALVE_KINDS = 9;
    private static final int PUMP = 9;
    private static final int TANK = 10;

    // How many ports a valve of each kind has, and then a pump.
    private static final int[] PORTS = {2, 3, 3, 2, 4, 1, 4, 2, 2, 2};

    private static final char LINE_END = 10;

    private Plant plant = new Plant();
    // A text is read into this one, so that the plant stays when the text is wrong.
    private Plant spare = new Plant();
    private final Ways ways = new Ways();
    private final Flow flow = new Flow();
    private final Text text = new Text();
    private final Line line = new Line();

    public PlantGraph() {
    }

    public int tank(long litres) {
        return plant.addTank(litres);
    }

    public int pump() {
        return plant.addPump();
    }

    public int valve(int kind) {
        return plant.addValve(kind);
    }

    public int pipe(int a, int b, long litres) {
        return plant.addPipe(a, b, litres);
    }

    public int bend(int a, int b) {
        if (!plant.isPipe(a) || !plant.isPipe(b) || a == b) {
            return NONE;
        }
        int bent = plant.endBentTo(a, b);
        if (bent != NONE) {
            plant.takeBendOut(bent);
            return 0;
        }
        int endOfA = plant.endForBend(a);
        int endOfB = plant.endForBend(b);
        if (endOfA == NONE || endOfB == NONE) {
            return NONE;
        }
        plant.putBendIn(endOfA, endOfB);
        return 1;
    }

    public boolean position(int valve, int p) throws IndexOutOfBoundsException {
        if (!plant.isThing(valve)) {
            throw new IndexOutOfBoundsException("no such thing");
        }
        if (!plant.isValve(valve) || !isPosition(p)) {
            return false;
        }
        plant.position[valve] = p;
        return true;
    }

    public boolean sensor(int valve, int p) {
        if (!plant.isValve(valve) || !isPosition(p)) {
            return false;
        }
        plant.told[valve] = p;
        return true;
    }

    public boolean unsure(int valve) {
        return plant.isValve(valve) && plant.told[valve] != NONE
                && plant.told[valve] != plant.position[valve];
    }

    public int content(int pipe) {
        return plant.isPipe(pipe) ? plant.liquidInPipe(pipe) : NONE;
    }

    public boolean fill(int tank, int liquid, long litres) {
        if (!plant.isTank(tank) || !isBetween(liquid, 1, LAST_LIQUID)
                || !isBetween(litres, 1, MAX_TANK_LITRES) || litres > plant.roomIn(tank)) {
            return false;
        }
        plant.pourIn(tank, liquid, (int) litres);
        return true;
    }

    public long move(int from, int to, long litres) {
        if (!plant.isTank(from) || !plant.isTank(to) || from == to
                || !isBetween(litres, 1, MAX_TANK_LITRES)) {
            return -1;
        }
        ways.search(plant, from);
        if (ways.lastEnd(to) == NONE) {
            return -1;
        }
        return flow.run(plant, ways, from, to, (int) litres);
    }

    public int joined(int thing, int k) {
        if (!plant.isTank(thing) || k < 0) {
            return NONE;
        }
        ways.search(plant, thing);
        int before = 0;
        for (int other = 0; other < plant.things; other++) {
            if (other != thing && ways.lastEnd(other) != NONE) {
                if (before == k) {
                    return other;
                }
                before++;
            }
        }
        return NONE;
    }

    public boolean unit(int u) {
        return isBetween(u, 1, 127) && text.add(u);
    }

    public int read() {
        spare.clear();
        int wrong = text.takeInto(spare);
        if (wrong != NONE) {
            return -1 - wrong;
        }
        Plant old = plant;
        plant = spare;
        spare = old;
        return plant.things;
    }

    public int write(int i) {
        if (i < 0) {
            return NONE;
        }
        int left = i;
        for (int thing = 0; thing < plant.things; thing++) {
            line.setToThing(plant, thing);
            if (left < line.length) {
                return line.byteAt(left);
            }
            left -= line.length;
        }
        for (int pipe = 0; pipe < plant.pipes; pipe++) {
            line.setToPipe(plant, pipe);
            if (left < line.length) {
                return line.byteAt(left);
            }
            left -= line.length;
        }
        return NONE;
    }

    private static boolean isBetween(long number, long least, long most) {
        return number >= least && number <= most;
    }

    private static boolean isPosition(int p) {
        return isBetween(p, 0, LAST_POSITION);
    }

    /** A row of litres. Four bits hold a litre's liquid, which keeps a full plant's row short. */
    private static final class Litres {
        private static final int IN_A_WORD = 16;

        private final long[] words = new long[MAX_LITRES / IN_A_WORD];

        void clear() {
            Arrays.fill(words, 0L);
        }

        int at(int i) {
            if (!isBetween(i, 0, MAX_LITRES - 1)) {
                return EMPTY;
            }
            return (int) (words[i / IN_A_WORD] >>> shift(i)) & MIXED;
        }

        void set(int i, int liquid) {
            if (!isBetween(i, 0, MAX_LITRES - 1)) {
                return;
            }
            long others = words[i / IN_A_WORD] & ~((long) MIXED << shift(i));
            words[i / IN_A_WORD] = others | (long) (liquid & MIXED) << shift(i);
        }

        private static int shift(int i) {
            return i % IN_A_WORD * 4;
        }
    }

    /**
     * Things, pipes and bends, and what is in them. The ends of pipe n are numbered 2n (A) and
     * 2n + 1 (B), so that end ^ 1 is the other end of the same pipe.
     */
    private static final class Plant {
        private int things;
        private final int[] kind = new int[MAX_THINGS];
        private final int[] position = new int[MAX_THINGS];
        private final int[] told = new int[MAX_THINGS];
        private final int[] capacity = new int[MAX_THINGS];
        private final int[] amount = new int[MAX_THINGS];
        private final int[] liquid = new int[MAX_THINGS];
        // A tank's ports are not kept: there may be any number of them, and they pass nothing.
        private final int[] portsTaken = new int[MAX_THINGS];
        private final int[] endAtPort = new int[MAX_THINGS * MAX_PORTS];

        private int pipes;
        private final int[] pipeLitres = new int[MAX_PIPES];
        private final int[] thingAtEnd = new int[MAX_ENDS];
        private final int[] portAtEnd = new int[MAX_ENDS];
        private final int[] bendAtEnd = new int[MAX_ENDS];
        private final Litres inPipes = new Litres();

        void clear() {
            things = 0;
            pipes = 0;
            inPipes.clear();
        }

        boolean isThing(int thing) {
            return thing >= 0 && thing < things;
        }

        boolean isTank(int thing) {
            return isThing(thing) && kind[thing] == TANK;
        }

        boolean isValve(int thing) {
            return isThing(thing) && kind[thing] < VALVE_KINDS;
        }

        boolean isPipe(int pipe) {
            return pipe >= 0 && pipe < pipes;
        }

        int addTank(long litres) {
            return isBetween(litres, 1, MAX_TANK_LITRES) ? addThing(TANK, (int) litres) : NONE;
        }

        int addPump() {
            return addThing(PUMP, 0);
        }

        int addValve(int valveKind) {
            return isBetween(valveKind, 0, VALVE_KINDS - 1) ? addThing(valveKind, 0) : NONE;
        }

        private int addThing(int thingKind, int litres) {
            if (things >= MAX_THINGS) {
                return FULL;
            }
            int thing = things;
            things++;
            kind[thing] = thingKind;
            position[thing] = 0;
            told[thing] = NONE;
            capacity[thing] = litres;
            amount[thing] = 0;
            liquid[thing] = EMPTY;
            portsTaken[thing] = 0;
            return thing;
        }

        int addPipe(int a, int b, long litres) {
            if (!isBetween(litres, 1, MAX_PIPE_LITRES)) {
                return NONE;
            }
            int endsAtA = a == b ? 2 : 1;
            if (!takesEnds(a, endsAtA) || !takesEnds(b, 1)) {
                return NONE;
            }
            if (pipes >= MAX_PIPES) {
                return FULL;
            }
            int pipe = pipes;
            pipes++;
            pipeLitres[pipe] = (int) litres;
            addEnd(2 * pipe, a);
            addEnd(2 * pipe + 1, b);
            return pipe;
        }

        private boolean takesEnds(int thing, int ends) {
            if (!isThing(thing)) {
                return thing == NONE;
            }
            return kind[thing] == TANK || portsTaken[thing] + ends <= PORTS[kind[thing]];
        }

        private void addEnd(int end, int thing) {
            thingAtEnd[end] = thing;
            portAtEnd[end] = NONE;
            bendAtEnd[end] = NONE;
            if (!isThing(thing) || kind[thing] == TANK || portsTaken[thing] >= MAX_PORTS) {
                return;
            }
            portAtEnd[end] = portsTaken[thing];
            endAtPort[thing * MAX_PORTS + portsTaken[thing]] = end;
            portsTaken[thing]++;
        }

        /** The end of pipe a where a bend joins it to pipe b, A before B. */
        int endBentTo(int a, int b) {
            for (int end = 2 * a; end <= 2 * a + 1; end++) {
                if (bendAtEnd[end] != NONE && bendAtEnd[end] / 2 == b) {
                    return end;
                }
            }
            return NONE;
        }

        /** The end of a pipe to which the next bend comes. */
        int endForBend(int pipe) {
            for (int end = 2 * pipe; end <= 2 * pipe + 1; end++) {
                if (thingAtEnd[end] == NONE && bendAtEnd[end] == NONE) {
                    return end;
                }
            }
            return NONE;
        }

        void putBendIn(int end, int other) {
            bendAtEnd[end] = other;
            bendAtEnd[other] = end;
        }

        void takeBendOut(int end) {
            int other = bendAtEnd[end];
            bendAtEnd[end] = NONE;
            if (isBetween(other, 0, MAX_ENDS - 1)) {
                bendAtEnd[other] = NONE;
            }
        }

        /** Whether a valve or pump lets through from one of its ports to another one. */
        boolean passes(int thing, int from, int to) {
            if (from == to) {
                return false;
            }
            int p = position[thing];
            switch (kind[thing]) {
                case 0:
                    return p == 1;
                case 1:
                    return p == 0 && isPair(from, to, 0, 1) || p == 1 && isPair(from, to, 0, 2);
                case 2:
                    return p == 0 || p == 1 && isPair(from, to, 0, 1)
                            || p == 2 && isPair(from, to, 0, 2) || p == 3 && isPair(from, to, 1, 2);
                case 4:
                    return p == 1 || p == 0 && (isPair(from, to, 0, 1) || isPair(from, to, 2, 3));
                case 6:
                    return p == 0 && (isPair(from, to, 0, 1) || isPair(from, to, 2, 3))
                            || p == 1 && (isPair(from, to, 0, 3) || isPair(from, to, 1, 2));
                case 7:
                    return p != 0;
                case 8:
                    return p == 1 && from == 0;
                case 3:
                case PUMP:
                    return from == 0;
                default:
                    return false;
            }
        }

        private static boolean isPair(int from, int to, int a, int b) {
            return from == a && to == b || from == b && to == a;
        }

        int roomIn(int tank) {
            return capacity[tank] - amount[tank];
        }

        void pourIn(int tank, int comes, int litres) {
            if (comes == EMPTY || litres == 0) {
                return;
            }
            boolean alike = amount[tank] == 0 || liquid[tank] == comes;
            liquid[tank] = alike ? comes : MIXED;
            amount[tank] += litres;
        }

        void drawOff(int tank, int litres) {
            amount[tank] -= litres;
            if (amount[tank] == 0) {
                liquid[tank] = EMPTY;
            }
        }

        int liquidInPipe(int pipe) {
            int first = litreFrom(2 * pipe, 0);
            for (int i = 1; i < pipeLitres[pipe]; i++) {
                if (litreFrom(2 * pipe, i) != first) {
                    return MIXED;
                }
            }
            return first;
        }

        /** What litre i of a pipe is, counted from one of its ends. */
        int litreFrom(int end, int i) {
            return inPipes.at(placeFrom(end, i));
        }

        void setLitreFrom(int end, int i, int comes) {
            inPipes.set(placeFrom(end, i), comes);
        }

        private int placeFrom(int end, int i) {
            int pipe = end / 2;
            int fromA = end % 2 == 0 ? i : pipeLitres[pipe] - 1 - i;
            return pipe * MAX_PIPE_LITRES + fromA;
        }
    }

    /**
     * The ways from one tank, searched breadth first over the ends at which a way leaves its pipes.
     *
     * Ends are found in the order of their ways: fewer pipes first, then lesser numbers of pipes,
     * because a thing's ports stand in the order of their pipes. So the first way that comes to a
     * tank is THE WAY. A way that takes a pipe in both directions never comes first: where it went
     * into that pipe it could have gone on at once.
     */
    private static final class Ways {
        private static final int UNSEEN = -3;

        private final int[] found = new int[MAX_ENDS];
        private int foundCount;
        private final int[] previous = new int[MAX_ENDS];
        private final int[] lastEndAtThing = new int[MAX_THINGS];

        void search(Plant plant, int from) {
            foundCount = 0;
            Arrays.fill(previous, UNSEEN);
            Arrays.fill(lastEndAtThing, NONE);
            for (int end = 0; end < 2 * plant.pipes; end++) {
                if (plant.thingAtEnd[end] == from) {
                    passPipe(plant, end, NONE);
                }
            }
            for (int next = 0; next < foundCount && next < MAX_ENDS; next++) {
                goOn(plant, found[next]);
            }
        }

        /** The end at which the way to a tank leaves its last pipe. */
        int lastEnd(int tank) {
            return isBetween(tank, 0, MAX_THINGS - 1) ? lastEndAtThing[tank] : NONE;
        }

        /** The end at which a way that leaves a pipe at this end left the pipe before, NONE for the first. */
        int endBefore(int end) {
            return isBetween(end, 0, MAX_ENDS - 1) ? previous[end] : NONE;
        }

        private void goOn(Plant plant, int end) {
            if (plant.bendAtEnd[end] != NONE) {
                passPipe(plant, plant.bendAtEnd[end], end);
                return;
            }
            int thing = plant.thingAtEnd[end];
            if (!plant.isThing(thing) || plant.isTank(thing)) {
                return;
            }
            for (int port = 0; port < plant.portsTaken[thing]; port++) {
                if (plant.passes(thing, plant.portAtEnd[end], port)) {
                    passPipe(plant, plant.endAtPort[thing * MAX_PORTS + port], end);
                }
            }
        }

        private void passPipe(Plant plant, int into, int before) {
            int end = into ^ 1;
            if (!isBetween(end, 0, MAX_ENDS - 1) || previous[end] != UNSEEN || foundCount >= MAX_ENDS) {
                return;
            }
            previous[end] = before;
            found[foundCount] = end;
            foundCount++;
            int thing = plant.thingAtEnd[end];
            if (plant.isTank(thing) && lastEndAtThing[thing] == NONE) {
                lastEndAtThing[thing] = end;
            }
        }
    }

    /** Moves litres along a way: the way's litres stand in one row, that which leaves first in front. */
    private static final class Flow {
        private final Litres row = new Litres();
        private int size;

        int run(Plant plant, Ways ways, int from, int to, int wanted) {
            int comes = plant.liquid[from];
            int able = Math.min(wanted, plant.amount[from]);
            gather(plant, ways, to);
            int moved = pushOut(plant, to, able);
            if (moved == size) {
                // From here on each litre that leaves is one of those that came in: no need to go one by one.
                int rest = Math.min(able - moved, plant.roomIn(to));
                plant.pourIn(to, comes, rest);
                moved += rest;
            }
            plant.drawOff(from, moved);
            spread(plant, ways, to, moved, comes);
            return moved;
        }

        private void gather(Plant plant, Ways ways, int to) {
            size = 0;
            int end = ways.lastEnd(to);
            for (int n = 0; n < MAX_PIPES && isBetween(end, 0, MAX_ENDS - 1); n++) {
                int litres = plant.pipeLitres[end / 2];
                for (int i = 0; i < litres; i++) {
                    row.set(size, plant.litreFrom(end, i));
                    size++;
                }
                end = ways.endBefore(end);
            }
        }

        /** Lets what was in the way before come to the tank, litre by litre, while it fits. */
        private int pushOut(Plant plant, int to, int able) {
            int moved = 0;
            while (moved < able && moved < size) {
                int leaves = row.at(moved);
                if (leaves != EMPTY && plant.roomIn(to) < 1) {
                    return moved;
                }
                plant.pourIn(to, leaves, 1);
                moved++;
            }
            return moved;
        }

        private void spread(Plant plant, Ways ways, int to, int moved, int comes) {
            int place = moved;
            int end = ways.lastEnd(to);
            for (int n = 0; n < MAX_PIPES && isBetween(end, 0, MAX_ENDS - 1); n++) {
                int litres = plant.pipeLitres[end / 2];
                for (int i = 0; i < litres; i++) {
                    plant.setLitreFrom(end, i, place < size ? row.at(place) : comes);
                    place++;
                }
                end = ways.endBefore(end);
            }
        }
    }

    /** The text that comes byte by byte, and how it is read. */
    private static final class Text {
        private final byte[] bytes = new byte[MAX_TEXT];
        private int length;
        // The first byte that is not taken yet: where reading fails, this is the wrong one.
        private int place;
        private int number;

        boolean add(int u) {
            if (length >= MAX_TEXT) {
                return false;
            }
            bytes[length] = (byte) u;
            length++;
            return true;
        }

        /** Reads all lines into a plant and forgets them: the place of the first wrong byte, or NONE. */
        int takeInto(Plant plant) {
            place = 0;
            boolean right = true;
            for (int lines = 0; lines < MAX_TEXT && right && place < length; lines++) {
                // The line's end is passed last, so that a line that is refused is wrong there.
                right = takeLine(plant) && passWord("\n");
            }
            length = 0;
            return right ? NONE : place;
        }

        private boolean takeLine(Plant plant) {
            switch (byteAt(place)) {
                case 't':
                    return passWord("tank ") && passNumber() && isLineEnd() && plant.addTank(number) >= 0;
                case 'v':
                    return passWord("valve ") && passNumber() && isLineEnd() && plant.addValve(number) >= 0;
                case 'p':
                    return byteAt(place + 1) == 'u'
                            ? passWord("pump") && isLineEnd() && plant.addPump() >= 0
                            : takePipe(plant);
                default:
                    return false;
            }
        }

        private boolean takePipe(Plant plant) {
            if (!passWord("pipe ") || !passEnd()) {
                return false;
            }
            int a = number;
            if (!passWord(" ") || !passEnd()) {
                return false;
            }
            int b = number;
            return passWord(" ") && passNumber() && isLineEnd() && plant.addPipe(a, b, number) >= 0;
        }

        private int byteAt(int i) {
            return i >= 0 && i < length && i < MAX_TEXT ? bytes[i] : NONE;
        }

        private boolean isLineEnd() {
            return byteAt(place) == LINE_END;
        }

        private boolean passWord(String word) {
            for (int i = 0; i < word.length(); i++) {
                if (byteAt(place) != word.charAt(i)) {
                    return false;
                }
                place++;
            }
            return true;
        }

        private boolean passEnd() {
            if (byteAt(place) == '-') {
                place++;
                number = NONE;
                return true;
            }
            return passNumber();
        }

        private boolean passNumber() {
            number = 0;
            int digits = 0;
            // Behind a first 0 the number is at its end.
            while (digits < MAX_DIGITS && isBetween(byteAt(place), '0', '9') && (digits == 0 || number > 0)) {
                number = number * 10 + byteAt(place) - '0';
                place++;
                digits++;
            }
            return digits > 0;
        }
    }

    /** One line of the plant's text. */
    private static final class Line {
        // The longest line is that of a pipe: two ends of two digits, litres of three.
        private static final int MAX_LINE = 15;

        private final byte[] bytes = new byte[MAX_LINE];
        private int length;

        int byteAt(int i) {
            return i >= 0 && i < length && i < MAX_LINE ? bytes[i] : NONE;
        }

        void setToThing(Plant plant, int thing) {
            length = 0;
            switch (plant.kind[thing]) {
                case TANK:
                    addWord("tank ");
                    addNumber(plant.capacity[thing]);
                    break;
                case PUMP:
                    addWord("pump");
                    break;
                default:
                    addWord("valve ");
                    addNumber(plant.kind[thing]);
                    break;
            }
            addByte(LINE_END);
        }

        void setToPipe(Plant plant, int pipe) {
            length = 0;
            addWord("pipe ");
            addEnd(plant.thingAtEnd[2 * pipe]);
            addWord(" ");
            addEnd(plant.thingAtEnd[2 * pipe + 1]);
            addWord(" ");
            addNumber(plant.pipeLitres[pipe]);
            addByte(LINE_END);
        }

        private void addEnd(int thing) {
            if (thing == NONE) {
                addWord("-");
            } else {
                addNumber(thing);
            }
        }

        private void addNumber(int number) {
            boolean begun = false;
            for (int unit = MAX_TANK_LITRES; unit >= 1; unit /= 10) {
                int digit = number / unit % 10;
                begun = begun || digit > 0 || unit == 1;
                if (begun) {
                    addByte('0' + digit);
                }
            }
        }

        private void addWord(String word) {
            for (int i = 0; i < word.length(); i++) {
                addByte(word.charAt(i));
            }
        }

        private void addByte(int b) {
            if (length < MAX_LINE) {
                bytes[length] = (byte) b;
                length++;
            }
        }
    }
}
