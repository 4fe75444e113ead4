import java.util.Random;

/**
 * Random graphs, the same ones each time, on the house and on the slow one: points at one object, and at all others
 * edges of a kind, with one to three ends. What goes round makes searches turn back often.
 */
public final class GraphRunsTest {
    private final Random random;
    private final Twin twin = new Twin();
    private int objects;
    private int points;
    private int[] kinds;

    private GraphRunsTest(long seed) {
        random = new Random(seed);
    }

    /** The object of the points is any of all, so that edges may have places before it. */
    private void makeCategory() {
        objects = 2 + random.nextInt(3);
        points = random.nextInt(objects);
        kinds = new int[8];
        twin.call("category", objects);
        int arrows = 0;
        for (int object = 0; object < objects; object++) {
            int ends = object == points ? 0 : 1 + random.nextInt(objects == 2 ? 3 : 2);
            for (int end = 0; end < ends; end++) {
                kinds[arrows] = object;
                arrows++;
                twin.call("arrow", 0, points, object);
            }
        }
        kinds = java.util.Arrays.copyOf(kinds, arrows);
    }

    private void makeGraph() {
        int number = twin.number("presheaf", 0);
        int size = 1 + random.nextInt(4);
        for (int i = 0; i < size; i++) {
            twin.call("element", number, points);
        }
        for (int object = 0; object < objects; object++) {
            int edges = object == points ? 0 : random.nextInt(5);
            for (int edge = 0; edge < edges; edge++) {
                twin.call("element", number, object);
                tellEnds(number, object, edge, size);
            }
        }
    }

    /** Half of all second ends are that which comes next, so that there is much that goes round. */
    private void tellEnds(int number, int object, int edge, int size) {
        int last = edge % size;
        for (int i = 0; i < kinds.length; i++) {
            if (kinds[i] == object) {
                twin.call("act", number, objects + i, edge, last);
                last = random.nextBoolean() ? (last + 1) % size : random.nextInt(size);
            }
        }
    }

    private void ask(int one, int other) {
        int count = twin.number("maps", one, other);
        twin.call("areAlike", one, other);
        int places = twin.slow.pres.get(one).places().size();
        int index = count > 0 ? random.nextInt(count) : 0;
        for (int place = 0; place < places; place++) {
            twin.call("mapped", one, other, index, place);
        }
        twin.call("mapped", one, other, count, 0);
        for (char kind : new char[] {'^', 'x', '+'}) {
            if (twin.number("combine", one, other, kind) >= 0) {
                twin.call("checksum");
                twin.call("drop");
            }
        }
    }

    private void run() {
        makeCategory();
        int graphs = 3 + random.nextInt(2);
        for (int i = 0; i < graphs; i++) {
            makeGraph();
            twin.call("sections", i);
            twin.call("parts", i);
        }
        for (int one = 0; one < graphs; one++) {
            for (int other = 0; other < graphs; other++) {
                ask(one, other);
            }
        }
    }

    public static void main(String[] args) {
        long first = args.length > 1 ? Long.parseLong(args[1]) : 1;
        long last = args.length > 2 ? Long.parseLong(args[2]) : 150;
        int wrong = 0;
        for (long seed = first; seed <= last && wrong < 5; seed++) {
            GraphRunsTest test = new GraphRunsTest(seed);
            test.run();
            if (test.twin.difference != null) {
                wrong++;
                System.out.println("seed " + seed + ": " + test.twin.difference);
            }
        }
        System.out.println(wrong == 0 ? "all graphs are as due" : wrong + " runs are not as due");
        if (wrong != 0) {
            System.exit(1);
        }
    }
}
