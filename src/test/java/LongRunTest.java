/** "An object is used for at most 512 calls": the last one is answered as the first one, whatever came before it. */
public final class LongRunTest {
    private static final int CALLS = 512;

    private final Script s;
    private int made = 0;

    private LongRunTest(String title) {
        s = new Script(title);
    }

    private boolean hasRoomFor(int calls) {
        return made + calls <= CALLS;
    }

    private void due(Object want, String name, Object... arguments) {
        made++;
        s.due(want, name, arguments);
    }

    private void end() {
        while (hasRoomFor(2)) {
            due(true, "isWhole", 0);
        }
        while (hasRoomFor(1)) {
            due(true, "isSound");
        }
        Script.expect(made == CALLS, "there were " + CALLS + " calls");
    }

    /** Of a new presheaf nothing is told, whatever was told of the one that had its number. */
    private static void dropAndAdd() {
        LongRunTest run = new LongRunTest("dropped and added");
        run.due(0, "category", 2);
        run.due(2, "arrow", 0, 0, 1);
        while (run.hasRoomFor(10)) {
            run.due(0, "presheaf", 0);
            run.due(0, "element", 0, 0);
            run.due(1, "element", 0, 0);
            run.due(0, "element", 0, 1);
            run.due(Script.NONE, "image", 0, 2, 0);
            run.due(-1, "act", 0, 2, 0, 1);
            run.due(1, "act", 0, 2, 0, 0);
            run.due(6, "parts", 0);
            run.due(1.0f, "sheafShare");
            run.due(0, "drop");
        }
        run.end();
    }

    /** Those that are made stand where others stood, up to the last one. */
    private static void fillAndEmpty() {
        LongRunTest run = new LongRunTest("filled and emptied");
        Object[][] calls = {{"truth", 0}, {"represent", 0, 1}, {"combine", 0, 1, 'x'}, {"combine", 1, 1, '+'}, {"presheaf", 0},
            {"plus", 0}, {"combine", 1, 0, '^'}, {"move", 0, 0, 'l'}, {"move", 0, 0, 'r'}, {"move", 0, 0, 'b'}};
        int[][] sizes = {{2, 3}, {1, 1}, {2, 3}, {2, 2}, {0, 0}, {2, 3}, {2, 3}, {2, 3}, {2, 3}, {2, 3}};
        run.due(0, "category", 2);
        run.due(2, "arrow", 0, 0, 1);
        run.due(0, "functor", 0, 0);
        run.due(-1, "sendObject", 0, 0, 0);
        run.due(-1, "sendObject", 0, 1, 1);
        run.due(-1, "sendArrow", 0, 2, 2);
        while (run.hasRoomFor(51)) {
            for (int i = 0; i < 10; i++) {
                run.due(i, (String) calls[i][0], java.util.Arrays.copyOfRange(calls[i], 1, calls[i].length));
                run.due(sizes[i][0], "size", i, 0);
                run.due(sizes[i][1], "size", i, 1);
                run.due(true, "isPresheaf", i);
            }
            run.due(41.0 / 10.0, "meanElements");
            for (int left = 9; left >= 0; left--) {
                run.due(left, "drop");
            }
        }
        run.end();
    }

    /** As many refusals as there is room for, and then an answer as of a new house. */
    private static void refusedAllTheTime() {
        LongRunTest run = new LongRunTest("refused all the time");
        while (run.hasRoomFor(6)) {
            run.due(Script.ILLEGAL, "category", run.made % 2 * 5);
            run.due(Script.OUT, "arrow", run.made % 7, 0, 0);
            run.due(Script.STATE, "drop");
            run.due(Script.ARITHMETIC, "meanElements");
            run.due(Script.OUT, "presheaf", run.made % 3);
        }
        while (run.hasRoomFor(2)) {
            run.due(Script.OUT, "functor", 0, 0);
        }
        run.due(0, "category", 4);
        run.end();
    }

    private static void refusedInAFullHouse() {
        LongRunTest run = new LongRunTest("refused in a full house");
        for (int i = 0; i < 6; i++) {
            run.due(i, "category", 1);
        }
        for (int i = 0; i < 4; i++) {
            run.due(i, "functor", 0, 0);
        }
        for (int i = 0; i < 10; i++) {
            run.due(i, "represent", 0, 0);
        }
        while (run.hasRoomFor(8)) {
            run.due(Script.STATE, "category", 1);
            run.due(Script.STATE, "functor", 0, 0);
            run.due(Script.STATE, "presheaf", 5);
            run.due(Script.STATE, "truth", run.made % 6);
            run.due(Script.STATE, "combine", 0, 9, '^');
            run.due(Script.STATE, "plus", run.made % 10);
        }
        while (run.hasRoomFor(2)) {
            run.due(Script.STATE, "opposite", 1);
        }
        // No refusal has fixed 5.
        run.due(1, "arrow", 5, 0, 0);
        run.end();
    }

    /** What is told takes the place of what was told before, each time. */
    private static void toldAgain() {
        LongRunTest run = new LongRunTest("told again and again");
        run.due(0, "category", 1);
        run.due(1, "arrow", 0, 0, 0);
        run.due(-1, "compose", 0, 1, 1, 1);
        int told = 1;
        while (run.hasRoomFor(340)) {
            run.due(told, "compose", 0, 1, 1, 1 - told);
            told = 1 - told;
        }
        run.due(told, "compose", 0, 1, 1, 1);
        run.due(0, "functor", 0, 0);
        run.due(-1, "sendObject", 0, 0, 0);
        run.due(-1, "sendArrow", 0, 1, 0);
        run.due(0, "presheaf", 0);
        run.due(0, "element", 0, 0);
        run.due(1, "element", 0, 0);
        run.due(-1, "act", 0, 1, 0, 0);
        run.due(-1, "act", 0, 1, 1, 0);
        for (int i = 0; run.hasRoomFor(4); i++) {
            run.due(i % 2, "act", 0, 1, 1, (i + 1) % 2);
            run.due(i % 2, "sendArrow", 0, 1, (i + 1) % 2);
            run.due(true, "isPresheaf", 0);
            run.due(true, "isFunctor", 0);
        }
        run.end();
    }

    private static void coveredAgain() {
        LongRunTest run = new LongRunTest("covered again and again");
        run.due(0, "category", 2);
        run.due(2, "arrow", 0, 0, 1);
        run.due(0, "represent", 0, 1);
        run.due(1, "combine", 0, 0, '+');
        while (run.hasRoomFor(11)) {
            run.due(2, "cover", 0, 1, 4);
            run.due(4, "leastCover", 0, 1);
            run.due(true, "isSheaf", 1);
            run.due(3, "cover", 0, 1, 0);
            run.due(3, "cover", 0, 1, 4);
            run.due(0, "leastCover", 0, 0);
            run.due(0.5f, "sheafShare");
            run.due(2, "uncover", 0);
            run.due(0, "uncover", 0);
            run.due(6, "leastCover", 0, 1);
            run.due(1.0f, "sheafShare");
        }
        run.end();
    }

    /** What only asks changes nothing, however often it is asked. */
    private static void askedAgain() {
        LongRunTest run = new LongRunTest("asked again and again");
        run.due(0, "category", 2);
        run.due(2, "arrow", 0, 0, 1);
        run.due(0, "truth", 0);
        long sum = 7L * 31 * 31 + 2 * 31 + 3;
        for (int image : new int[] {0, 1, 0, 1, 2, 0, 1, 1}) {
            sum = sum * 31 + image;
        }
        while (run.hasRoomFor(18)) {
            run.due(sum, "checksum");
            run.due(3, "arrows", 0);
            run.due(2, "composite", 0, 2, 0);
            run.due(2, "inverses", 0);
            run.due(3, "sieves", 0, 1);
            run.due(true, "covers", 0, 1, 6);
            run.due(15, "maps", 0, 0);
            run.due(2, "mapped", 0, 0, 14, 4);
            run.due(true, "areAlike", 0, 0);
            run.due(3, "sections", 0);
            run.due(15, "parts", 0);
            run.due(11, "join", 0, 1, 10, '|');
            run.due(10, "least", 0, 8);
            run.due(4, "truthOf", 0, 2, 3);
            run.due(false, "isBoolean", 0);
            run.due(true, "isSheaf", 0);
            run.due(true, "isSound");
            run.due(5.0, "meanElements");
        }
        run.end();
    }

    /** What was asked of much is forgotten when little is asked, and the other way round. */
    private static void muchAndLittle() {
        LongRunTest run = new LongRunTest("much and little");
        run.due(0, "category", 4);
        for (int object = 1; object < 4; object++) {
            run.due(3 + object, "arrow", 0, 0, object);
        }
        // The presheaf s has s elements everywhere, each over its like.
        for (int size = 0; size < 5; size++) {
            run.due(size, "presheaf", 0);
            for (int element = 0; element < size; element++) {
                for (int object = 0; object < 4; object++) {
                    run.due(element, "element", size, object);
                }
                for (int arrow = 4; arrow < 7; arrow++) {
                    run.due(-1, "act", size, arrow, element, element);
                }
            }
        }
        int[] order = {4, 0, 3, 1, 2, 4, 3, 2, 1, 0};
        int[] nines = {1, 9, 81, 729, 6561};
        for (int first : order) {
            run.due(true, "areAlike", 4, 4);
            for (int other = 0; other < 5; other++) {
                int maps = 1;
                for (int i = 0; i < first; i++) {
                    maps *= other;
                }
                run.due(maps, "maps", first, other);
                run.due(first == other, "areAlike", first, other);
            }
            run.due(first, "sections", first);
            run.due(nines[first], "parts", first);
            run.due(true, "isSheaf", first);
            run.due(5, "plus", first);
            run.due(true, "areAlike", first, 5);
            run.due(5, "drop");
        }
        run.end();
    }

    public static void main(String[] args) {
        dropAndAdd();
        fillAndEmpty();
        refusedAllTheTime();
        refusedInAFullHouse();
        toldAgain();
        coveredAgain();
        askedAgain();
        muchAndLittle();
        Script.end("long runs");
    }
}
