/** Promises 11 to 24. */
public final class PresheafPromisesTest {
    private static final int LOW = Integer.MIN_VALUE;
    private static final int HIGH = Integer.MAX_VALUE;
    private static final int[] NEVER = {-1, LOW, HIGH};

    private PresheafPromisesTest() {
    }

    private static void promise11() {
        Script s = new Script("promise 11");
        s.call("category", 4);
        s.call("category", 1);
        s.call("category", 1);
        s.call("arrow", 2, 0, 0);
        s.due(0, "presheaf", 0);
        s.sizesAre(0, 0, 0, 0, 0);
        s.refused(Script.UNSUPPORTED, "arrow", 0, 0, 0);
        s.refused(Script.UNSUPPORTED, "presheaf", 2);
        for (int i = 1; i < 10; i++) {
            s.due(i, "presheaf", 0);
        }
        s.refused(Script.STATE, "presheaf", 1);
        s.refused(Script.UNSUPPORTED, "presheaf", 2);
        s.refused(Script.OUT, "presheaf", 3);
        for (int wrong : NEVER) {
            s.refused(Script.OUT, "presheaf", wrong);
        }
        s.due(1, "arrow", 1, 0, 0);
        s.refused(Script.OUT, "isPresheaf", 10);
    }

    private static void promise12() {
        Script s = new Script("promise 12");
        s.arrow();
        s.call("presheaf", 0);
        for (int i = 0; i < 4; i++) {
            s.due(i, "element", 0, 0);
        }
        s.due(true, "isPresheaf", 0);
        s.due(0, "element", 0, 1);
        s.due(false, "isPresheaf", 0);
        s.refused(Script.NONE, "image", 0, 2, 0);
        s.refused(Script.STATE, "element", 0, 0);
        s.due(4, "size", 0, 0);
        s.due(1, "element", 0, 1);
        s.refused(Script.OUT, "element", 0, 2);
        s.refused(Script.OUT, "element", 1, 0);
        for (int wrong : NEVER) {
            s.refused(Script.OUT, "element", wrong, 0);
            s.refused(Script.OUT, "element", 0, wrong);
        }
        // One that was made can grow, too.
        s.due(1, "represent", 0, 1);
        s.due(1, "element", 1, 1);
        s.due(false, "isPresheaf", 1);
        s.due(-1, "act", 1, 2, 1, 0);
        s.due(true, "isPresheaf", 1);
    }

    private static void promise13() {
        Script s = new Script("promise 13");
        s.arrow();
        s.sets(0, 1, 2);
        s.due(-1, "act", 0, 2, 1, 0);
        s.due(0, "act", 0, 2, 1, 0);
        s.refused(Script.NONE, "image", 0, 2, 0);
        s.refused(Script.OUT, "act", 0, 2, 0, 1);
        s.refused(Script.OUT, "act", 0, 2, 2, 0);
        s.refused(Script.UNSUPPORTED, "act", 0, 0, 0, 0);
        s.refused(Script.UNSUPPORTED, "act", 0, 1, 1, 1);
        s.refused(Script.UNSUPPORTED, "act", 0, 1, 1, 0);
        s.refused(Script.OUT, "act", 0, 0, 1, 0);
        s.refused(Script.OUT, "act", 0, 0, 0, 1);
        s.refused(Script.OUT, "act", 0, 3, 0, 0);
        s.refused(Script.OUT, "act", 1, 2, 0, 0);
        for (int wrong : NEVER) {
            s.refused(Script.OUT, "act", wrong, 2, 0, 0);
            s.refused(Script.OUT, "act", 0, wrong, 0, 0);
            s.refused(Script.OUT, "act", 0, 2, wrong, 0);
            s.refused(Script.OUT, "act", 0, 2, 0, wrong);
        }
        s.call("element", 0, 0);
        s.due(0, "act", 0, 2, 1, 1);
        s.due(1, "image", 0, 2, 1);
        s.due(1, "act", 0, 2, 1, 0);
        s.due(-1, "act", 0, 2, 0, 1);
        s.actsAs(0, 2, 1, 0);
    }

    private static void promise14() {
        Script s = new Script("promise 14");
        s.arrow();
        s.sets(0, 3, 1);
        s.due(3, "size", 0, 0);
        s.due(1, "size", 0, 1);
        s.refused(Script.OUT, "size", 0, 2);
        s.refused(Script.OUT, "size", 1, 0);
        for (int wrong : NEVER) {
            s.refused(Script.OUT, "size", wrong, 0);
            s.refused(Script.OUT, "size", 0, wrong);
        }
        s.refused(Script.OUT, "size", 0, 3);
    }

    private static void promise15() {
        Script s = new Script("promise 15");
        s.arrow();
        s.sets(0, 2, 3);
        s.call("act", 0, 2, 0, 1);
        s.call("act", 0, 2, 2, 0);
        s.due(1, "image", 0, 2, 0);
        s.refused(Script.NONE, "image", 0, 2, 1);
        s.due(0, "image", 0, 2, 2);
        s.refused(Script.OUT, "image", 0, 2, 3);
        s.actsAs(0, 0, 0, 1);
        s.actsAs(0, 1, 0, 1, 2);
        s.refused(Script.OUT, "image", 0, 3, 0);
        s.refused(Script.OUT, "image", 1, 2, 0);
        for (int wrong : NEVER) {
            s.refused(Script.OUT, "image", wrong, 2, 0);
            s.refused(Script.OUT, "image", 0, wrong, 0);
            s.refused(Script.OUT, "image", 0, 2, wrong);
        }
    }

    private static void promise16() {
        Script s = new Script("promise 16");
        s.chain();
        s.sets(0, 2, 2, 2);
        s.due(false, "isPresheaf", 0);
        s.acts(0, 3, 1, 0);
        s.acts(0, 4, 0, 0);
        s.due(false, "isPresheaf", 0);
        s.acts(0, 5, 1);
        s.due(false, "isPresheaf", 0);
        s.acts(0, 5, 1, 1);
        s.due(true, "isPresheaf", 0);
        s.acts(0, 5, 1, 0);
        s.due(false, "isPresheaf", 0);
        s.refused(Script.OUT, "isPresheaf", 1);
        s.refused(Script.OUT, "isPresheaf", -1);
        s.refused(Script.OUT, "isPresheaf", HIGH);
        // Second behind first is second: then acting by the second one, and by the first one after it,
        // is acting by the second one, so the first one leaves alone whatever the second one answers.
        Script t = new Script("promise 16, second arrow first");
        t.constants(2);
        t.sets(0, 2);
        t.acts(0, 1, 0, 0);
        t.acts(0, 2, 1, 1);
        t.due(false, "isPresheaf", 0);
        t.acts(0, 2, 0, 0);
        t.due(true, "isPresheaf", 0);
        t.call("opposite", 0);
        t.sets(1, 2);
        t.acts(1, 1, 0, 0);
        t.acts(1, 2, 1, 1);
        t.due(true, "isPresheaf", 1);
    }

    private static void promise17() {
        Script s = new Script("promise 17");
        s.refused(Script.STATE, "drop");
        s.call("category", 1);
        s.sets(0, 2);
        s.sets(0, 3);
        s.due(1, "drop");
        s.due(2, "size", 0, 0);
        s.refused(Script.OUT, "size", 1, 0);
        s.due(1, "presheaf", 0);
        s.due(0, "size", 1, 0);
        s.due(1, "drop");
        s.due(0, "drop");
        s.refused(Script.STATE, "drop");
        s.refused(Script.UNSUPPORTED, "arrow", 0, 0, 0);
        // What was told to one that was dropped is not told to the next one.
        Script t = new Script("promise 17, nothing is left");
        t.swap();
        t.sets(0, 2);
        t.acts(0, 1, 1, 0);
        t.due(0, "drop");
        t.sets(0, 2);
        t.refused(Script.NONE, "image", 0, 1, 0);
    }

    private static void promise18() {
        Script s = new Script("promise 18");
        s.chain();
        s.due(0, "represent", 0, 2);
        s.sizesAre(0, 1, 1, 1);
        s.actsAs(0, 3, 0);
        s.actsAs(0, 5, 0);
        s.due(1, "represent", 0, 0);
        s.sizesAre(1, 1, 0, 0);
        s.refused(Script.OUT, "represent", 0, 3);
        s.refused(Script.OUT, "represent", 1, 0);
        for (int wrong : NEVER) {
            s.refused(Script.OUT, "represent", wrong, 0);
            s.refused(Script.OUT, "represent", 0, wrong);
        }
        Script t = new Script("promise 18, more arrows");
        t.parallel(4);
        t.due(0, "represent", 0, 1);
        t.sizesAre(0, 4, 1);
        for (int arrow = 2; arrow < 6; arrow++) {
            t.actsAs(0, arrow, arrow - 2);
        }
        t.parallel(5);
        t.refused(Script.UNSUPPORTED, "represent", 1, 1);
        t.due(7, "arrow", 1, 0, 0);
        t.refused(Script.UNSUPPORTED, "represent", 1, 0);
        t.constants(3);
        t.due(1, "represent", 2, 0);
        t.sizesAre(1, 4);
        // An action composes: an element, that is an arrow, behind the arrow that acts.
        t.actsAs(1, 1, 1, 1, 2, 3);
        t.actsAs(1, 3, 3, 1, 2, 3);
        t.turn();
        t.due(2, "represent", 3, 0);
        t.actsAs(2, 1, 1, 2, 0);
        t.actsAs(2, 2, 2, 0, 1);
        for (int i = 3; i < 10; i++) {
            t.due(i, "represent", 3, 0);
        }
        t.refused(Script.STATE, "represent", 3, 0);
        t.refused(Script.UNSUPPORTED, "represent", 1, 1);
        t.due(4, "category", 1);
        t.refused(Script.STATE, "represent", 4, 0);
        t.due(1, "arrow", 4, 0, 0);
        t.refused(Script.UNSUPPORTED, "represent", 4, 0);
        t.refused(Script.OUT, "represent", 4, 1);
        t.refused(Script.OUT, "represent", 5, 0);
    }

    private static void promise19() {
        Script s = new Script("promise 19");
        s.arrow();
        s.due(0, "truth", 0);
        s.sizesAre(0, 2, 3);
        s.actsAs(0, 2, 0, 1, 1);
        s.chain();
        s.due(1, "truth", 1);
        s.sizesAre(1, 2, 3, 4);
        s.actsAs(1, 3, 0, 1, 1);
        s.actsAs(1, 4, 0, 1, 2, 2);
        s.actsAs(1, 5, 0, 1, 1, 1);
        s.swap();
        s.due(2, "truth", 2);
        s.sizesAre(2, 2);
        s.actsAs(2, 1, 0, 1);
        s.parallel(2);
        s.refused(Script.UNSUPPORTED, "truth", 3);
        s.due(4, "arrow", 3, 0, 0);
        s.refused(Script.UNSUPPORTED, "truth", 3);
        s.constants(2);
        // Sieves of constants that stay when behind: none, each one, both, all of them.
        s.refused(Script.UNSUPPORTED, "truth", 4);
        s.due(5, "opposite", 4);
        s.due(3, "truth", 5);
        s.sizesAre(3, 3);
        s.actsAs(3, 1, 0, 2, 2);
        for (int i = 4; i < 10; i++) {
            s.due(i, "truth", 0);
        }
        s.refused(Script.STATE, "truth", 0);
        s.refused(Script.UNSUPPORTED, "truth", 4);
        s.refused(Script.UNSUPPORTED, "truth", 3);
        s.refused(Script.OUT, "truth", 6);
        for (int wrong : NEVER) {
            s.refused(Script.OUT, "truth", wrong);
        }
        // Bits rise by numbers of arrows, whatever the order of the sieves in themselves.
        Script t = new Script("promise 19, rising bits");
        t.call("category", 2);
        t.call("arrow", 0, 1, 0);
        t.due(0, "truth", 0);
        t.sizesAre(0, 3, 2);
        t.actsAs(0, 2, 0, 1, 1);
    }

    private static void promise20() {
        Script s = new Script("promise 20");
        s.arrow();
        s.sets(0, 2, 1);
        s.acts(0, 2, 1);
        s.sets(0, 2, 2);
        s.acts(1, 2, 1, 0);
        s.due(2, "combine", 0, 1, 'x');
        s.sizesAre(2, 4, 2);
        s.actsAs(2, 2, 3, 2);
        s.due(3, "combine", 1, 0, 'x');
        s.sizesAre(3, 4, 2);
        s.actsAs(3, 2, 3, 1);
        s.due(4, "combine", 0, 1, '+');
        s.sizesAre(4, 4, 3);
        s.actsAs(4, 2, 1, 3, 2);
        s.refused(Script.UNSUPPORTED, "combine", 4, 0, '+');
        s.refused(Script.UNSUPPORTED, "combine", 4, 1, 'x');
        s.refused(Script.ILLEGAL, "combine", 0, 1, 'z');
        s.refused(Script.ILLEGAL, "combine", 0, 1, (char) 0);
        s.refused(Script.ILLEGAL, "combine", 4, 1, '*');
        s.refused(Script.OUT, "combine", 5, 0, 'z');
        s.refused(Script.OUT, "combine", 0, 5, 'z');
        for (int wrong : NEVER) {
            s.refused(Script.OUT, "combine", wrong, 0, 'x');
            s.refused(Script.OUT, "combine", 0, wrong, 'x');
        }
        s.arrow();
        s.due(5, "represent", 1, 1);
        for (char kind : new char[] {'x', '+', '^'}) {
            s.refused(Script.UNSUPPORTED, "combine", 0, 5, kind);
            s.refused(Script.UNSUPPORTED, "combine", 5, 0, kind);
        }
        s.call("element", 5, 1);
        for (char kind : new char[] {'x', '+', '^'}) {
            s.refused(Script.UNSUPPORTED, "combine", 5, 5, kind);
        }
        s.due(5, "drop");
        for (int i = 5; i < 10; i++) {
            s.due(i, "combine", 0, 0, 'x');
        }
        for (char kind : new char[] {'x', '+'}) {
            s.refused(Script.STATE, "combine", 0, 0, kind);
        }
        s.refused(Script.UNSUPPORTED, "combine", 4, 0, '+');
        s.refused(Script.ILLEGAL, "combine", 4, 0, 'y');
        s.refused(Script.STATE, "combine", 0, 1, '^');
        s.refused(Script.UNSUPPORTED, "combine", 4, 4, '^');
        powers();
        powerBounds();
    }

    private static void powers() {
        Script s = new Script("promise 20, powers of sets");
        s.call("category", 1);
        for (int size = 0; size < 5; size++) {
            s.sets(0, size);
        }
        int[][] fits = {{0, 0, 1}, {0, 4, 1}, {1, 0, 0}, {1, 4, 4}, {2, 2, 4}, {4, 1, 1}, {2, 1, 1}};
        for (int[] row : fits) {
            s.due(5, "combine", row[0], row[1], '^');
            s.sizesAre(5, row[2]);
            s.due(5, "drop");
        }
        s.refused(Script.UNSUPPORTED, "combine", 3, 2, '^');
        s.refused(Script.UNSUPPORTED, "combine", 2, 3, '^');
        Script t = new Script("promise 20, powers with actions");
        t.swap();
        t.sets(0, 2);
        t.acts(0, 1, 1, 0);
        t.sets(0, 2);
        t.acts(1, 1, 0, 1);
        // Maps of pairs (arrow, element) to a set that swaps are told by what they do at the identity.
        t.due(2, "combine", 0, 0, '^');
        t.sizesAre(2, 4);
        t.actsAs(2, 1, 3, 1, 2, 0);
        t.due(3, "combine", 1, 0, '^');
        t.sizesAre(3, 4);
        t.actsAs(3, 1, 3, 2, 1, 0);
        t.due(4, "combine", 0, 1, '^');
        t.actsAs(4, 1, 0, 2, 1, 3);
        t.due(5, "combine", 1, 1, '^');
        t.actsAs(5, 1, 0, 1, 2, 3);
        Script u = new Script("promise 20, powers over an arrow");
        u.arrow();
        u.due(0, "represent", 0, 0);
        u.sets(0, 2, 3);
        u.acts(1, 2, 1, 0, 1);
        u.due(2, "combine", 0, 1, '^');
        u.sizesAre(2, 2, 2);
        u.actsAs(2, 2, 0, 1);
        u.due(3, "combine", 1, 0, '^');
        u.sizesAre(3, 1, 0);
        u.due(4, "represent", 0, 1);
        u.due(5, "combine", 4, 1, '^');
        u.sizesAre(5, 2, 3);
        u.actsAs(5, 2, 0, 1, 1);
    }

    private static void powerBounds() {
        Script s = new Script("promise 20, bounds of powers");
        s.constants(3);
        s.sets(0, 4);
        s.sets(0, 1);
        for (int arrow = 1; arrow < 4; arrow++) {
            s.acts(0, arrow, 0, 1, 2, 3);
            s.acts(1, arrow, 0);
        }
        // Four arrows with four elements are 16 pairs, and five with three are 15, though five are no set.
        s.due(2, "combine", 0, 1, '^');
        s.sizesAre(2, 1);
        s.constants(4);
        s.sets(1, 4);
        s.sets(1, 3);
        s.sets(1, 1);
        for (int arrow = 1; arrow < 5; arrow++) {
            s.acts(3, arrow, 0, 1, 2, 3);
            s.acts(4, arrow, 0, 1, 2);
            s.acts(5, arrow, 0);
        }
        s.refused(Script.UNSUPPORTED, "combine", 3, 5, '^');
        s.due(6, "combine", 4, 5, '^');
        s.sizesAre(6, 1);
        s.due(7, "combine", 5, 4, '^');
        s.sizesAre(7, 3);
        s.parallel(9);
        s.sets(2, 2, 0);
        s.sets(2, 1, 0);
        s.refused(Script.UNSUPPORTED, "combine", 8, 9, '^');
        s.refused(Script.STATE, "combine", 9, 9, '^');
        s.refused(Script.UNSUPPORTED, "combine", 8, 8, '^');
    }

    /** With one element everywhere as the exponent a power is what it was, in each category. */
    private static void powersOfEach() {
        Script s = new Script("promise 20, powers of each category");
        s.call("category", 1);
        s.arrow();
        s.idempotent();
        s.sets(0, 1);
        s.sets(0, 4);
        s.sets(1, 1, 1);
        s.acts(2, 2, 0);
        s.sets(1, 2, 3);
        s.acts(3, 2, 0, 1, 1);
        s.sets(2, 1);
        s.acts(4, 1, 0);
        s.sets(2, 3);
        s.acts(5, 1, 0, 0, 2);
        s.due(6, "combine", 4, 5, '^');
        s.sizesAre(6, 3);
        s.actsAs(6, 1, 0, 0, 2);
        s.due(7, "combine", 2, 3, '^');
        s.sizesAre(7, 2, 3);
        s.actsAs(7, 2, 0, 1, 1);
        s.due(8, "combine", 0, 1, '^');
        s.sizesAre(8, 4);
        s.due(9, "combine", 2, 3, '^');
        s.sizesAre(9, 2, 3);
        s.actsAs(9, 2, 0, 1, 1);
    }

    /** What the last of four elements at where the last of twelve arrows comes from does leaves one map of two. */
    private static void lastPair() {
        Script s = new Script("promise 20, the last element and the last arrow");
        s.call("category", 4);
        s.call("arrow", 0, 0, 1);
        s.call("arrow", 0, 0, 2);
        for (int arrow = 6; arrow < 11; arrow++) {
            s.call("arrow", 0, 3, 2);
        }
        s.due(11, "arrow", 0, 1, 2);
        s.call("compose", 0, 11, 4, 5);
        s.sets(0, 2, 4, 0, 0);
        s.acts(0, 4, 0, 0, 0, 1);
        s.sets(0, 2, 1, 0, 0);
        s.acts(1, 4, 0);
        s.due(2, "combine", 0, 1, '^');
        s.sizesAre(2, 4, 1, 1, 1);
        s.actsAs(2, 4, 0);
        s.actsAs(2, 11, 0);
        // With no element over the last one of both it goes where it will.
        s.call("act", 0, 4, 3, 0);
        s.due(3, "combine", 0, 1, '^');
        s.sizesAre(3, 4, 2, 2, 1);
        s.actsAs(3, 4, 0, 1);
        s.actsAs(3, 11, 0, 1);
    }

    private static void promise21() {
        Script s = new Script("promise 21");
        s.arrow();
        s.sets(0, 2, 3);
        s.acts(0, 2, 0, 1, 1);
        s.due(1, "represent", 0, 0);
        s.due(2, "represent", 0, 1);
        s.due(2, "maps", 1, 0);
        s.due(3, "maps", 2, 0);
        s.due(1, "maps", 0, 2);
        s.due(0, "maps", 0, 1);
        // Both elements at 0 go somewhere, and what lies over them, one and two, to what lies over that.
        s.due(1 * 1 + 1 * 4 + 2 * 1 + 2 * 4, "maps", 0, 0);
        s.due(3, "presheaf", 0);
        s.due(1, "maps", 3, 0);
        s.due(0, "maps", 0, 3);
        s.due(1, "maps", 3, 3);
        s.refused(Script.OUT, "maps", 4, 0);
        s.refused(Script.OUT, "maps", 0, 4);
        for (int wrong : NEVER) {
            s.refused(Script.OUT, "maps", wrong, 0);
            s.refused(Script.OUT, "maps", 0, wrong);
        }
        s.arrow();
        s.due(4, "represent", 1, 0);
        s.refused(Script.UNSUPPORTED, "maps", 0, 4);
        s.refused(Script.UNSUPPORTED, "maps", 3, 4);
        s.call("element", 4, 1);
        s.refused(Script.UNSUPPORTED, "maps", 4, 4);
        s.due(5, "represent", 1, 0);
        s.refused(Script.UNSUPPORTED, "maps", 4, 5);
        s.refused(Script.UNSUPPORTED, "maps", 5, 4);
        Script t = new Script("promise 21, many");
        t.call("category", 4);
        t.sets(0, 4, 2);
        t.sets(0, 4, 4);
        t.sets(0, 4, 3);
        t.sets(0, 4, 4, 4, 4);
        t.sets(0, 4, 4, 4, 0);
        t.due(4096, "maps", 0, 1);
        t.refused(Script.UNSUPPORTED, "maps", 1, 1);
        t.due(256 * 9, "maps", 0, 2);
        t.refused(Script.UNSUPPORTED, "maps", 3, 3);
        t.due(0, "maps", 3, 4);
        t.refused(Script.UNSUPPORTED, "maps", 4, 3);
        almost5000();
        graphs();
    }

    /** Over two arrows from 0 to 1 presheaves are graphs: edges at 1 with a start and an end at 0. */
    private static void graphs() {
        Script s = new Script("promise 21, graphs");
        s.parallel(2);
        int[][] edges = {{0, 1, 1, 0}, {0, 1, 1, 2, 2, 0}, {0, 1, 1, 2, 2, 3, 3, 0}, {0, 1, 0, 2, 1, 2}, {0, 0, 0, 1}};
        for (int i = 0; i < edges.length; i++) {
            graph(s, i, edges[i]);
        }
        // Round by two, three and four: none goes round another one but by a divisor.
        int[][] counts = {{2, 0, 0, 0, 1}, {0, 3, 0, 0, 1}, {2, 0, 4, 0, 1}, {0, 0, 0, 1, 2}, {0, 0, 0, 0, 2}};
        for (int i = 0; i < counts.length; i++) {
            for (int j = 0; j < counts.length; j++) {
                s.due(counts[i][j], "maps", i, j);
            }
        }
        s.due(2, "mapped", 2, 2, 2, 0);
        s.due(1, "mapped", 2, 2, 2, 3);
        s.refused(Script.NONE, "mapped", 1, 0, 0, 0);
        s.due(true, "areAlike", 2, 2);
        s.due(false, "areAlike", 3, 1);
        s.due(0, "sections", 1);
        s.due(1, "sections", 4);
        deadEnds(s, counts);
    }

    /** What goes nowhere from one point may go somewhere from the next one, whatever was asked before. */
    private static void deadEnds(Script s, int[][] before) {
        // Round by two and a loop, before it, behind it and on both sides of it.
        int[][] edges = {{0, 1, 1, 0, 2, 2}, {0, 0, 1, 2, 2, 1}, {0, 0, 1, 2, 2, 1, 3, 3}};
        for (int i = 0; i < edges.length; i++) {
            graph(s, 5 + i, edges[i]);
        }
        int[][] counts = {{3, 3, 4}, {1, 1, 2}, {3, 3, 4}, {1, 1, 2}, {1, 1, 2}};
        int[][] cycles = {{2}, {0}, {0, 3}};
        // Twelve elements over one: far too many maps, of which just the first ones are looked at.
        s.call("category", 4);
        for (int to = 0; to < 3; to++) {
            s.call("arrow", 1, 3, to);
        }
        s.sets(1, 4, 4, 4, 1);
        for (int arrow = 4; arrow < 7; arrow++) {
            s.acts(8, arrow, 0, 0, 0, 0);
        }
        for (int i = 0; i < counts.length; i++) {
            for (int j = 0; j < before.length; j++) {
                s.refused(Script.UNSUPPORTED, "maps", 8, 8);
                s.due(before[i][j], "maps", i, j);
            }
            for (int j = 0; j < edges.length; j++) {
                s.refused(Script.UNSUPPORTED, "areAlike", 8, 8);
                s.due(counts[i][j], "maps", i, 5 + j);
            }
        }
        // Round by three goes to a loop alone.
        for (int j = 0; j < edges.length; j++) {
            for (int index = 0; index < cycles[j].length; index++) {
                s.refused(Script.UNSUPPORTED, "maps", 8, 8);
                for (int place = 0; place < 3; place++) {
                    s.due(cycles[j][index], "mapped", 1, 5 + j, index, place);
                }
            }
            s.refused(Script.NONE, "mapped", 1, 5 + j, cycles[j].length, 0);
        }
        s.due(1, "sections", 5);
        s.due(2, "sections", 7);
        s.due(false, "areAlike", 0, 5);
        s.due(true, "areAlike", 5, 6);
        s.due(true, "areAlike", 6, 5);
    }

    /** A graph by the starts and the ends of its edges. */
    private static void graph(Script s, int number, int... ends) {
        s.due(number, "presheaf", 0);
        int points = 0;
        for (int end : ends) {
            points = Math.max(points, end + 1);
        }
        for (int j = 0; j < points; j++) {
            s.call("element", number, 0);
        }
        for (int j = 0; 2 * j < ends.length; j++) {
            s.call("element", number, 1);
            s.call("act", number, 2, j, ends[2 * j]);
            s.call("act", number, 3, j, ends[2 * j + 1]);
        }
    }

    /** Just 5000: two elements over one go to two over one or to one, in 5 ways, and one alone goes in 2 ways. */
    private static void almost5000() {
        Script s = new Script("promise 21, the bound");
        s.call("category", 4);
        s.call("arrow", 0, 0, 1);
        s.call("arrow", 0, 2, 3);
        s.sets(0, 4, 4, 3, 4);
        s.acts(0, 4, 0, 0, 1, 1);
        s.acts(0, 5, 0, 0, 1, 1);
        s.sets(0, 2, 3, 2, 3);
        s.acts(1, 4, 0, 0, 1);
        s.acts(1, 5, 0, 0, 1);
        s.due(5 * 5 * 2 * 2 * 5 * 5 * 2, "maps", 0, 1);
        s.due(0, "mapped", 0, 1, 0, 14);
        s.due(2, "mapped", 0, 1, 4999, 14);
        s.refused(Script.NONE, "mapped", 0, 1, 5000, 0);
        s.due(false, "areAlike", 0, 1);
        s.call("element", 0, 2);
        s.refused(Script.UNSUPPORTED, "maps", 0, 1);
        s.refused(Script.UNSUPPORTED, "mapped", 0, 1, 5000, 0);
        s.refused(Script.UNSUPPORTED, "areAlike", 0, 1);
    }

    private static void promise22() {
        Script s = new Script("promise 22");
        s.call("category", 2);
        s.sets(0, 2, 1);
        s.sets(0, 2, 3);
        s.due(12, "maps", 0, 1);
        for (int index = 0; index < 12; index++) {
            s.due(index / 6, "mapped", 0, 1, index, 0);
            s.due(index / 3 % 2, "mapped", 0, 1, index, 1);
            s.due(index % 3, "mapped", 0, 1, index, 2);
        }
        s.refused(Script.NONE, "mapped", 0, 1, 12, 0);
        s.refused(Script.NONE, "mapped", 0, 1, -1, 0);
        s.refused(Script.NONE, "mapped", 0, 1, HIGH, 2);
        s.refused(Script.NONE, "mapped", 0, 1, LOW, 2);
        s.refused(Script.OUT, "mapped", 0, 1, 0, 3);
        s.refused(Script.OUT, "mapped", 0, 1, 99, 3);
        s.refused(Script.OUT, "mapped", 2, 1, 0, 0);
        s.refused(Script.OUT, "mapped", 0, 2, 0, 0);
        for (int wrong : NEVER) {
            s.refused(Script.OUT, "mapped", wrong, 1, 0, 0);
            s.refused(Script.OUT, "mapped", 0, wrong, 0, 0);
            s.refused(Script.OUT, "mapped", 0, 1, 0, wrong);
        }
        s.arrow();
        s.sets(1, 2, 3);
        s.refused(Script.UNSUPPORTED, "mapped", 0, 2, 0, 0);
        s.refused(Script.UNSUPPORTED, "mapped", 2, 2, 99, 0);
        s.refused(Script.OUT, "mapped", 2, 2, 0, 5);
        s.acts(2, 2, 0, 1, 1);
        int[][] rows = {{0, 0, 0, 0, 0}, {0, 1, 0, 1, 1}, {0, 1, 0, 1, 2}, {0, 1, 0, 2, 1}, {0, 1, 0, 2, 2},
            {1, 0, 1, 0, 0}, {1, 0, 2, 0, 0}, {1, 1, 1, 1, 1}};
        for (int index = 0; index < rows.length; index++) {
            for (int place = 0; place < 5; place++) {
                s.due(rows[index][place], "mapped", 2, 2, index, place);
            }
        }
        Script t = new Script("promise 22, many");
        t.call("category", 2);
        t.sets(0, 4, 2);
        t.sets(0, 4, 4);
        t.due(3, "mapped", 0, 1, 4095, 0);
        t.due(3, "mapped", 0, 1, 4095, 5);
        t.due(2, "mapped", 0, 1, 4094, 5);
        t.refused(Script.NONE, "mapped", 0, 1, 4096, 5);
        t.refused(Script.UNSUPPORTED, "mapped", 1, 1, 0, 0);
        t.refused(Script.UNSUPPORTED, "mapped", 1, 1, -1, 0);
        t.refused(Script.OUT, "mapped", 1, 1, 0, 8);
    }

    private static void promise23() {
        Script s = new Script("promise 23");
        s.swap();
        s.sets(0, 4);
        s.acts(0, 1, 1, 0, 3, 2);
        s.sets(0, 4);
        s.acts(1, 1, 2, 3, 0, 1);
        s.sets(0, 4);
        s.acts(2, 1, 1, 0, 2, 3);
        s.sets(0, 3);
        s.acts(3, 1, 1, 0, 2);
        s.due(true, "areAlike", 0, 0);
        s.due(true, "areAlike", 0, 1);
        s.due(true, "areAlike", 1, 0);
        s.due(false, "areAlike", 0, 2);
        s.due(false, "areAlike", 2, 0);
        s.due(false, "areAlike", 2, 3);
        s.due(false, "areAlike", 3, 2);
        s.refused(Script.OUT, "areAlike", 4, 0);
        s.refused(Script.OUT, "areAlike", 0, 4);
        for (int wrong : NEVER) {
            s.refused(Script.OUT, "areAlike", wrong, 0);
            s.refused(Script.OUT, "areAlike", 0, wrong);
        }
        s.swap();
        s.sets(1, 1);
        s.refused(Script.UNSUPPORTED, "areAlike", 4, 4);
        s.acts(4, 1, 0);
        s.due(true, "areAlike", 4, 4);
        s.refused(Script.UNSUPPORTED, "areAlike", 0, 4);
        Script t = new Script("promise 23, many");
        t.call("category", 2);
        t.sets(0, 4, 4);
        t.sets(0, 3, 3);
        t.sets(0, 4, 2);
        t.sets(0, 2, 4);
        t.sets(0, 0, 0);
        t.refused(Script.UNSUPPORTED, "areAlike", 0, 0);
        t.refused(Script.UNSUPPORTED, "areAlike", 0, 1);
        t.due(false, "areAlike", 1, 0);
        t.due(true, "areAlike", 2, 2);
        t.due(false, "areAlike", 2, 3);
        t.due(true, "areAlike", 4, 4);
        t.due(false, "areAlike", 4, 0);
        t.due(false, "areAlike", 0, 4);
    }

    private static void promise24() {
        Script s = new Script("promise 24");
        s.call("category", 4);
        s.sets(0, 4, 4, 4, 4);
        s.due(256, "sections", 0);
        s.sets(0, 4, 3, 0, 4);
        s.due(0, "sections", 1);
        s.swap();
        s.sets(1, 4);
        s.refused(Script.UNSUPPORTED, "sections", 2);
        s.acts(2, 1, 1, 0, 2, 3);
        s.due(2, "sections", 2);
        s.acts(2, 1, 1, 0, 3, 2);
        s.due(0, "sections", 2);
        s.arrow();
        s.sets(2, 3, 2);
        s.acts(3, 2, 0, 0);
        s.due(2, "sections", 3);
        s.parallel(2);
        s.sets(3, 2, 3);
        s.acts(4, 2, 0, 1, 0);
        s.acts(4, 3, 0, 0, 1);
        s.due(1, "sections", 4);
        s.refused(Script.OUT, "sections", 5);
        for (int wrong : NEVER) {
            s.refused(Script.OUT, "sections", wrong);
        }
    }

    public static void main(String[] args) {
        promise11();
        promise12();
        promise13();
        promise14();
        promise15();
        promise16();
        promise17();
        promise18();
        promise19();
        promise20();
        powersOfEach();
        lastPair();
        promise21();
        promise22();
        promise23();
        promise24();
        Script.end("promises 11 to 24");
    }
}
