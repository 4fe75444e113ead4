/** Promises 38 to 42. */
public final class FunctorPromisesTest {
    private static final int LOW = Integer.MIN_VALUE;
    private static final int HIGH = Integer.MAX_VALUE;
    private static final int[] NEVER = {-1, LOW, HIGH};

    private FunctorPromisesTest() {
    }

    private static void sends(Script s, int functor, int[] objects, int... arrows) {
        for (int object = 0; object < objects.length; object++) {
            s.call("sendObject", functor, object, objects[object]);
        }
        for (int i = 0; i < arrows.length; i++) {
            s.call("sendArrow", functor, objects.length + i, arrows[i]);
        }
    }

    private static void promise38() {
        Script s = new Script("promise 38");
        s.arrow();
        s.call("category", 1);
        s.call("category", 1);
        s.call("arrow", 2, 0, 0);
        s.due(0, "functor", 0, 1);
        s.due(false, "isFunctor", 0);
        s.refused(Script.UNSUPPORTED, "arrow", 0, 0, 0);
        s.refused(Script.UNSUPPORTED, "arrow", 1, 0, 0);
        s.refused(Script.UNSUPPORTED, "functor", 0, 2);
        s.refused(Script.UNSUPPORTED, "functor", 2, 0);
        s.due(2, "arrow", 2, 0, 0);
        s.due(1, "functor", 1, 1);
        s.due(2, "functor", 1, 0);
        s.due(3, "functor", 0, 0);
        s.call("category", 1);
        s.refused(Script.STATE, "functor", 3, 3);
        s.refused(Script.UNSUPPORTED, "functor", 3, 2);
        s.due(1, "arrow", 3, 0, 0);
        s.refused(Script.OUT, "functor", 4, 2);
        s.refused(Script.OUT, "functor", 2, 4);
        for (int wrong : NEVER) {
            s.refused(Script.OUT, "functor", wrong, 0);
            s.refused(Script.OUT, "functor", 0, wrong);
        }
    }

    private static void promise39() {
        Script s = new Script("promise 39");
        s.arrow();
        s.call("category", 4);
        s.call("functor", 0, 1);
        s.due(-1, "sendObject", 0, 1, 3);
        s.due(3, "sendObject", 0, 1, 0);
        s.due(0, "sendObject", 0, 1, 2);
        s.due(-1, "sendObject", 0, 0, 3);
        s.refused(Script.OUT, "sendObject", 0, 2, 0);
        s.refused(Script.OUT, "sendObject", 0, 0, 4);
        s.refused(Script.OUT, "sendObject", 1, 0, 0);
        for (int wrong : NEVER) {
            s.refused(Script.OUT, "sendObject", wrong, 0, 0);
            s.refused(Script.OUT, "sendObject", 0, wrong, 0);
            s.refused(Script.OUT, "sendObject", 0, 0, wrong);
        }
        s.due(3, "sendObject", 0, 0, 3);
        // Identities follow: what a functor does to the identity of an object is what its whole says.
        Script t = new Script("promise 39, identities follow");
        t.call("category", 1);
        t.call("category", 2);
        t.call("functor", 0, 1);
        t.due(false, "isFunctor", 0);
        t.call("sendObject", 0, 0, 1);
        t.due(true, "isFunctor", 0);
        t.sets(1, 1, 3);
        t.due(1, "move", 0, 0, 'b');
        t.sizesAre(1, 3);
        t.due(1, "sendObject", 0, 0, 0);
        t.due(true, "isFunctor", 0);
        t.due(2, "move", 0, 0, 'b');
        t.sizesAre(2, 1);
        t.actsAs(1, 0, 0, 1, 2);
        // A functor that is told anew leaves the next one alone, and one that was told is no other one.
        t.due(1, "functor", 0, 1);
        t.due(-1, "sendObject", 1, 0, 1);
    }

    private static void promise40() {
        Script s = new Script("promise 40");
        s.arrow();
        s.chain();
        s.call("functor", 0, 1);
        s.due(-1, "sendArrow", 0, 2, 5);
        s.due(5, "sendArrow", 0, 2, 0);
        s.due(0, "sendArrow", 0, 2, 3);
        s.refused(Script.UNSUPPORTED, "sendArrow", 0, 0, 0);
        s.refused(Script.UNSUPPORTED, "sendArrow", 0, 1, 5);
        s.refused(Script.OUT, "sendArrow", 0, 0, 6);
        s.refused(Script.OUT, "sendArrow", 0, 3, 0);
        s.refused(Script.OUT, "sendArrow", 0, 2, 6);
        s.refused(Script.OUT, "sendArrow", 1, 2, 0);
        for (int wrong : NEVER) {
            s.refused(Script.OUT, "sendArrow", wrong, 2, 0);
            s.refused(Script.OUT, "sendArrow", 0, wrong, 0);
            s.refused(Script.OUT, "sendArrow", 0, 2, wrong);
            s.refused(Script.OUT, "sendArrow", 0, 0, wrong);
        }
        s.due(3, "sendArrow", 0, 2, 3);
    }

    private static void promise41() {
        Script s = new Script("promise 41");
        s.arrow();
        s.chain();
        s.call("functor", 0, 1);
        s.due(false, "isFunctor", 0);
        s.call("sendArrow", 0, 2, 5);
        s.due(false, "isFunctor", 0);
        s.call("sendObject", 0, 0, 0);
        s.due(false, "isFunctor", 0);
        s.call("sendObject", 0, 1, 2);
        s.due(true, "isFunctor", 0);
        s.call("sendObject", 0, 1, 1);
        s.due(false, "isFunctor", 0);
        s.call("sendArrow", 0, 2, 3);
        s.due(true, "isFunctor", 0);
        s.call("sendArrow", 0, 2, 4);
        s.due(false, "isFunctor", 0);
        s.call("sendObject", 0, 0, 1);
        s.call("sendArrow", 0, 2, 1);
        s.due(true, "isFunctor", 0);
        s.call("sendObject", 0, 0, 2);
        s.call("sendArrow", 0, 2, 4);
        s.due(false, "isFunctor", 0);
        // A category without arrows told beside its objects: the last one is not told.
        s.call("category", 3);
        s.call("functor", 2, 2);
        s.call("sendObject", 1, 0, 0);
        s.call("sendObject", 1, 1, 0);
        s.due(false, "isFunctor", 1);
        s.call("sendObject", 1, 2, 2);
        s.due(true, "isFunctor", 1);
        s.refused(Script.OUT, "isFunctor", 2);
        for (int wrong : NEVER) {
            s.refused(Script.OUT, "isFunctor", wrong);
        }
        Script t = new Script("promise 41, composites");
        t.turn();
        t.call("functor", 0, 0);
        int[][] rows = {{1, 2, 1}, {2, 1, 1}, {0, 0, 1}, {0, 1, 0}, {1, 1, 0}, {2, 2, 0}};
        for (int[] row : rows) {
            sends(t, 0, new int[] {0}, row[0], row[1]);
            t.due(row[2] == 1, "isFunctor", 0);
        }
        t.idempotent();
        t.swap();
        t.call("functor", 1, 2);
        sends(t, 1, new int[] {0}, 1);
        t.due(false, "isFunctor", 1);
        sends(t, 1, new int[] {0}, 0);
        t.due(true, "isFunctor", 1);
    }

    private static void back() {
        Script s = new Script("promise 42, back");
        s.arrow();
        s.chain();
        s.call("functor", 0, 1);
        sends(s, 0, new int[] {0, 2}, 5);
        s.sets(1, 2, 3, 4);
        s.acts(0, 3, 1, 1, 0);
        s.acts(0, 4, 2, 0, 1, 1);
        s.acts(0, 5, 0, 1, 1, 1);
        s.due(1, "move", 0, 0, 'b');
        s.sizesAre(1, 2, 4);
        s.actsAs(1, 2, 0, 1, 1, 1);
        sends(s, 0, new int[] {2, 2}, 2);
        s.due(2, "move", 0, 0, 'b');
        s.sizesAre(2, 4, 4);
        s.actsAs(2, 2, 0, 1, 2, 3);
        sends(s, 0, new int[] {1, 2}, 4);
        s.due(3, "move", 0, 0, 'b');
        s.sizesAre(3, 3, 4);
        s.actsAs(3, 2, 2, 0, 1, 1);
        s.refused(Script.UNSUPPORTED, "move", 0, 1, 'b');
    }

    private static void left() {
        Script s = new Script("promise 42, to the left");
        s.call("category", 1);
        s.arrow();
        s.call("functor", 0, 1);
        sends(s, 0, new int[] {1});
        s.sets(0, 2);
        s.due(1, "move", 0, 0, 'l');
        s.sizesAre(1, 2, 2);
        s.actsAs(1, 2, 0, 1);
        sends(s, 0, new int[] {0});
        s.due(2, "move", 0, 0, 'l');
        s.sizesAre(2, 2, 0);
        // From both points to one: the union of what is at both, in order.
        s.call("category", 2);
        s.call("functor", 2, 0);
        sends(s, 1, new int[] {0, 0});
        s.sets(2, 1, 2);
        s.due(4, "move", 1, 3, 'l');
        s.sizesAre(4, 3);
        s.sets(2, 3, 2);
        s.refused(Script.UNSUPPORTED, "move", 1, 5, 'l');
        // From an arrow to a point: what an action takes to each other is one.
        s.call("functor", 1, 0);
        sends(s, 2, new int[] {0, 0}, 0);
        s.sets(1, 3, 2);
        s.acts(6, 2, 2, 2);
        s.due(7, "move", 2, 6, 'l');
        s.sizesAre(7, 3);
        s.acts(6, 2, 2, 1);
        s.due(8, "move", 2, 6, 'l');
        s.sizesAre(8, 3);
        Script t = new Script("promise 42, to the left, groups");
        t.call("category", 1);
        t.swap();
        t.call("functor", 0, 1);
        sends(t, 0, new int[] {0});
        t.sets(0, 2);
        t.due(1, "move", 0, 0, 'l');
        // Pairs by elements, then arrows; an arrow goes behind: (x, id) to (x, s).
        t.sizesAre(1, 4);
        t.actsAs(1, 1, 1, 0, 3, 2);
        t.call("functor", 1, 0);
        sends(t, 1, new int[] {0}, 0);
        t.due(2, "move", 1, 1, 'l');
        t.sizesAre(2, 2);
        t.call("functor", 1, 1);
        sends(t, 2, new int[] {0}, 1);
        t.due(3, "move", 2, 1, 'l');
        t.sizesAre(3, 4);
        t.actsAs(3, 1, 1, 0, 3, 2);
        sends(t, 2, new int[] {0}, 0);
        // Of each orbit one is left for each arrow, and the group that is forgotten comes anew.
        t.due(4, "move", 2, 1, 'l');
        t.actsAs(4, 1, 1, 0, 3, 2);
        t.sets(0, 3);
        t.refused(Script.UNSUPPORTED, "move", 0, 5, 'l');
        order();
    }

    /** Pairs by c, then elements, then arrows, though the arrows of the later c have lower numbers. */
    private static void order() {
        Script s = new Script("promise 42, the order of pairs");
        s.call("category", 2);
        s.call("category", 3);
        s.call("arrow", 1, 0, 2);
        s.call("arrow", 1, 0, 1);
        s.call("functor", 0, 1);
        sends(s, 0, new int[] {1, 2});
        s.sets(0, 2, 1);
        s.due(1, "move", 0, 0, 'l');
        s.sizesAre(1, 3, 2, 1);
        s.actsAs(1, 4, 0, 1);
        s.actsAs(1, 3, 2);
        s.parallel(2);
        s.call("category", 1);
        s.call("functor", 3, 2);
        sends(s, 1, new int[] {1});
        s.sets(3, 2);
        s.due(3, "move", 1, 2, 'l');
        s.sizesAre(3, 4, 2);
        s.actsAs(3, 2, 0, 2);
        s.actsAs(3, 3, 1, 3);
    }

    private static void right() {
        Script s = new Script("promise 42, to the right");
        s.call("category", 1);
        s.arrow();
        s.call("functor", 0, 1);
        sends(s, 0, new int[] {0});
        s.sets(0, 2);
        s.due(1, "move", 0, 0, 'r');
        s.sizesAre(1, 2, 2);
        s.actsAs(1, 2, 0, 1);
        sends(s, 0, new int[] {1});
        s.due(2, "move", 0, 0, 'r');
        s.sizesAre(2, 1, 2);
        s.actsAs(2, 2, 0, 0);
        // From both points to one: pairs, the first one counting more.
        s.call("category", 2);
        s.call("functor", 2, 0);
        sends(s, 1, new int[] {0, 0});
        s.sets(2, 2, 2);
        s.due(4, "move", 1, 3, 'r');
        s.sizesAre(4, 4);
        s.sets(2, 2, 3);
        s.refused(Script.UNSUPPORTED, "move", 1, 5, 'r');
        // From an arrow to a point: its sections.
        s.call("functor", 1, 0);
        sends(s, 2, new int[] {0, 0}, 0);
        s.sets(1, 3, 2);
        s.acts(6, 2, 2, 2);
        s.due(7, "move", 2, 6, 'r');
        s.sizesAre(7, 2);
        Script t = new Script("promise 42, to the right, groups");
        t.call("category", 1);
        t.swap();
        t.call("functor", 0, 1);
        sends(t, 0, new int[] {0});
        t.sets(0, 2);
        t.due(1, "move", 0, 0, 'r');
        // Maps of both arrows, in order 00 01 10 11; the arrow that swaps turns both round.
        t.sizesAre(1, 4);
        t.actsAs(1, 1, 0, 2, 1, 3);
        t.call("functor", 1, 0);
        sends(t, 1, new int[] {0}, 0);
        t.due(2, "move", 1, 1, 'r');
        t.sizesAre(2, 2);
        t.sets(0, 3);
        t.refused(Script.UNSUPPORTED, "move", 0, 3, 'r');
        manyArrows();
    }

    /** Twelve arrows from where an object goes are not too many. */
    private static void manyArrows() {
        Script s = new Script("promise 42, twelve arrows");
        s.call("category", 4);
        s.constants(11);
        s.call("functor", 0, 1);
        sends(s, 0, new int[] {0, 0, 0, 0});
        s.sets(0, 1, 1, 1, 1);
        s.due(1, "move", 0, 0, 'r');
        s.sizesAre(1, 1);
        s.sets(0, 1, 1, 1, 0);
        s.due(3, "move", 0, 2, 'r');
        s.sizesAre(3, 0);
        s.sets(0, 1, 1, 1, 2);
        s.refused(Script.UNSUPPORTED, "move", 0, 4, 'r');
        s.refused(Script.UNSUPPORTED, "move", 0, 0, 'l');
    }

    /** What is at the last of four objects, moved along the last of twelve arrows. */
    private static void lastOfAll() {
        Script s = new Script("promise 42, the last object and the last arrow");
        s.call("category", 4);
        s.call("arrow", 0, 1, 2);
        s.call("arrow", 0, 0, 2);
        for (int arrow = 6; arrow < 11; arrow++) {
            s.call("arrow", 0, 3, 2);
        }
        s.due(11, "arrow", 0, 0, 1);
        s.call("compose", 0, 4, 11, 5);
        s.call("category", 4);
        s.call("functor", 1, 0);
        sends(s, 0, new int[] {3, 3, 3, 0});
        s.sets(1, 1, 1, 1, 3);
        s.due(1, "move", 0, 0, 'r');
        s.sizesAre(1, 3, 3, 3, 1);
        for (int arrow : new int[] {4, 5, 11}) {
            s.actsAs(1, arrow, 0, 1, 2);
        }
        s.actsAs(1, 10, 0, 0, 0);
        s.due(2, "move", 0, 0, 'l');
        s.sizesAre(2, 3, 0, 0, 3);
        sends(s, 0, new int[] {3, 3, 3, 1});
        s.sets(1, 1, 1, 1, 4);
        s.due(4, "move", 0, 3, 'l');
        s.sizesAre(4, 4, 4, 0, 3);
        s.actsAs(4, 11, 0, 1, 2, 3);
        s.due(5, "move", 0, 3, 'r');
        s.sizesAre(5, 1, 4, 4, 1);
        s.actsAs(5, 4, 0, 1, 2, 3);
        s.actsAs(5, 11, 0, 0, 0, 0);
    }

    /** Twelve arrows from where each of four objects goes: of those from one object all go where one of them goes. */
    private static void allPairs() {
        Script s = new Script("promise 42, 48 pairs");
        s.constants(11);
        s.call("opposite", 0);
        s.call("category", 4);
        for (int object = 0; object < 4; object++) {
            s.call("arrow", 2, object, object);
            s.call("compose", 2, 4 + object, 4 + object, 4 + object);
        }
        s.call("functor", 2, 1);
        sends(s, 0, new int[] {0, 0, 0, 0}, 1, 2, 2, 1);
        s.due(true, "isFunctor", 0);
        int[][] rows = {{2, 2, 1, 1}, {1, 1, 2, 2}, {2, 1, 1, 2}, {1, 2, 2, 1}, {1, 1, 1, 4}, {4, 1, 1, 1}, {1, 3, 1, 1},
            {2, 2, 2, 1}, {1, 1, 3, 2}, {4, 4, 4, 0}};
        for (int[] row : rows) {
            s.sets(2, row);
            for (int object = 0; object < 4; object++) {
                s.acts(0, 4 + object, java.util.Arrays.copyOf(new int[] {0, 1, 2, 3}, row[object]));
            }
            int product = row[0] * row[1] * row[2] * row[3];
            if (product > 4) {
                s.refused(Script.UNSUPPORTED, "move", 0, 0, 'r');
            } else {
                s.due(1, "move", 0, 0, 'r');
                s.sizesAre(1, product);
                s.actsAs(1, 11, java.util.Arrays.copyOf(new int[] {0, 1, 2, 3}, product));
                s.due(1, "drop");
            }
            s.due(0, "drop");
        }
    }

    private static void promise42() {
        back();
        left();
        right();
        lastOfAll();
        allPairs();
        Script s = new Script("promise 42, refusals");
        s.call("category", 1);
        s.arrow();
        s.call("functor", 0, 1);
        s.call("functor", 0, 1);
        sends(s, 0, new int[] {1});
        s.sets(0, 1);
        s.sets(1, 1, 1);
        for (char way : new char[] {'x', 'B', (char) 0, 'R'}) {
            s.refused(Script.ILLEGAL, "move", 0, 0, way);
            s.refused(Script.ILLEGAL, "move", 1, 1, way);
            s.refused(Script.OUT, "move", 2, 0, way);
            s.refused(Script.OUT, "move", 0, 2, way);
        }
        for (int wrong : NEVER) {
            s.refused(Script.OUT, "move", wrong, 0, 'l');
            s.refused(Script.OUT, "move", 0, wrong, 'l');
        }
        s.refused(Script.UNSUPPORTED, "move", 0, 1, 'b');
        s.acts(1, 2, 0);
        s.due(2, "move", 0, 1, 'b');
        s.refused(Script.UNSUPPORTED, "move", 0, 0, 'b');
        s.refused(Script.UNSUPPORTED, "move", 0, 1, 'l');
        s.refused(Script.UNSUPPORTED, "move", 0, 1, 'r');
        s.refused(Script.UNSUPPORTED, "move", 1, 0, 'l');
        s.refused(Script.UNSUPPORTED, "move", 1, 0, 'r');
        s.refused(Script.UNSUPPORTED, "move", 1, 1, 'b');
        s.sets(1, 1, 1);
        for (int i = 4; i < 10; i++) {
            s.due(i, "move", 0, 0, i % 2 == 0 ? 'l' : 'r');
        }
        for (char way : new char[] {'l', 'r'}) {
            s.refused(Script.STATE, "move", 0, 0, way);
            s.refused(Script.UNSUPPORTED, "move", 0, 1, way);
        }
        s.refused(Script.STATE, "move", 0, 1, 'b');
        s.refused(Script.UNSUPPORTED, "move", 0, 3, 'b');
        s.refused(Script.ILLEGAL, "move", 0, 3, 'y');
        s.refused(Script.OUT, "move", 0, 10, 'b');
    }

    public static void main(String[] args) {
        promise38();
        promise39();
        promise40();
        promise41();
        promise42();
        Script.end("promises 38 to 42");
    }
}
