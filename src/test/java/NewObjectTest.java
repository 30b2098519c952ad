/** Promise 1: no things, no pipes, no text. */
final class NewObjectTest {
    public static void main(String[] args) {
        PlantGraph x = new PlantGraph();
        Check.due("write(0)", x.write(0), Check.NONE);
        Check.due("content(0)", x.content(0), Check.NONE);
        Check.due("joined(0, 0)", x.joined(0, 0), Check.NONE);
        Check.due("move", x.move(0, 1, 1), -1);
        Check.due("fill", x.fill(0, 1, 1), false);
        Check.due("sensor", x.sensor(0, 0), false);
        Check.due("unsure", x.unsure(0), false);
        Check.due("bend", x.bend(0, 1), Check.NONE);
        Check.due("position throws", Check.positionThrows(x, 0, 0), true);
        Check.due("read", x.read(), 0);
        Check.due("the first thing", x.pump(), 0);
        Check.due("the first pipe", x.pipe(-1, -1, 1), 0);

        PlantGraph other = new PlantGraph();
        Check.due("another object has no things", other.write(0), Check.NONE);
        Check.end("NewObjectTest");
    }
}
