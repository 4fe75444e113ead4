/** Promises 1 to 10. */
public final class CategoryPromisesTest {
    private static final int LOW = Integer.MIN_VALUE;
    private static final int HIGH = Integer.MAX_VALUE;

    private CategoryPromisesTest() {
    }

    private static void promise1() {
        Script s = new Script("promise 1");
        s.refused(Script.OUT, "arrows", 0);
        s.refused(Script.OUT, "isPresheaf", 0);
        s.refused(Script.OUT, "isFunctor", 0);
        s.refused(Script.STATE, "drop");
        s.due(7L, "checksum");
        s.due(true, "isSound");
        s.due(0, "category", 1);
    }

    private static void promise2() {
        Script s = new Script("promise 2");
        for (int objects : new int[] {0, 5, -1, LOW, HIGH}) {
            s.refused(Script.ILLEGAL, "category", objects);
        }
        for (int i = 0; i < 6; i++) {
            s.due(i, "category", 1 + i % 4);
            s.due(1 + i % 4, "arrows", i);
            s.due(true, "isWhole", i);
        }
        s.due(3, "composite", 3, 3, 3);
        s.refused(Script.UNSUPPORTED, "composite", 3, 3, 2);
        s.refused(Script.STATE, "category", 1);
        s.refused(Script.STATE, "category", 4);
        s.refused(Script.ILLEGAL, "category", 0);
        s.refused(Script.ILLEGAL, "category", 5);
        s.refused(Script.OUT, "arrows", 6);
    }

    private static void promise3() {
        Script s = new Script("promise 3");
        s.call("category", 3);
        s.due(3, "arrow", 0, 0, 2);
        s.due(4, "arrow", 0, 2, 0);
        s.due(5, "arrow", 0, 1, 1);
        s.due(6, "arrow", 0, 0, 2);
        for (int wrong : new int[] {-1, 3, LOW, HIGH}) {
            s.refused(Script.OUT, "arrow", 0, wrong, 0);
            s.refused(Script.OUT, "arrow", 0, 0, wrong);
            s.refused(Script.OUT, "arrow", wrong, 0, 0);
        }
        s.refused(Script.OUT, "arrow", 1, 0, 0);
        s.due(7, "arrows", 0);
        for (int i = 7; i < 12; i++) {
            s.due(i, "arrow", 0, 0, 1);
        }
        s.refused(Script.STATE, "arrow", 0, 0, 1);
        s.refused(Script.OUT, "arrow", 0, 0, 3);
        s.due(12, "arrows", 0);
        fixedByAll();
        Script t = new Script("promise 3, fixed with 12 arrows");
        t.call("category", 2);
        for (int i = 2; i < 12; i++) {
            t.due(i, "arrow", 0, 0, 1);
        }
        t.refused(Script.STATE, "arrow", 0, 0, 1);
        t.due(0, "presheaf", 0);
        t.refused(Script.UNSUPPORTED, "arrow", 0, 0, 1);
        t.refused(Script.OUT, "arrow", 0, 2, 1);
    }

    /** Each call that adds something of a category fixes it, for good, and none that fails. */
    private static void fixedByAll() {
        Object[][] calls = {{"opposite", 0}, {"times", 0, 1}, {"times", 1, 0}, {"times", 0, 0}, {"presheaf", 0},
            {"represent", 0, 0}, {"truth", 0}, {"functor", 0, 1}, {"functor", 1, 0}, {"cover", 0, 0, 1},
            {"cover", 0, 0, 0}};
        for (Object[] call : calls) {
            Script s = new Script("fixed by " + java.util.Arrays.toString(call));
            s.call("category", 1);
            s.call("category", 1);
            Object[] arguments = java.util.Arrays.copyOfRange(call, 1, call.length);
            s.due(true, "isWhole", 0);
            s.call((String) call[0], arguments);
            s.refused(Script.UNSUPPORTED, "arrow", 0, 0, 0);
            s.call("drop");
            s.call("uncover", 0);
            s.refused(Script.UNSUPPORTED, "arrow", 0, 0, 0);
            s.due(1, "arrows", 0);
        }
        Object[][] others = {{"isWhole", 0}, {"inverses", 0}, {"sieves", 0, 0}, {"covers", 0, 0, 1},
            {"leastCover", 0, 0}, {"uncover", 0}, {"cover", 0, 0, 2}, {"represent", 0, 1}, {"cover", 0, 1, 1},
            {"functor", 0, 7}, {"times", 0, 7}, {"composite", 0, 0, 0}, {"arrows", 0}};
        Script s = new Script("not fixed");
        s.call("category", 1);
        for (Object[] call : others) {
            s.call((String) call[0], java.util.Arrays.copyOfRange(call, 1, call.length));
        }
        s.due(1, "arrow", 0, 0, 0);
    }

    private static void promise4() {
        Script s = new Script("promise 4");
        s.call("category", 3);
        s.call("arrow", 0, 0, 1);
        s.call("arrow", 0, 1, 2);
        s.call("arrow", 0, 0, 2);
        s.call("arrow", 0, 0, 2);
        s.due(-1, "compose", 0, 4, 3, 5);
        s.due(5, "compose", 0, 4, 3, 6);
        s.due(6, "compose", 0, 4, 3, 0);
        s.due(false, "isWhole", 0);
        s.due(0, "compose", 0, 4, 3, 6);
        s.due(true, "isWhole", 0);
        s.refused(Script.UNSUPPORTED, "compose", 0, 3, 4, 5);
        s.refused(Script.UNSUPPORTED, "compose", 0, 3, 3, 5);
        s.refused(Script.UNSUPPORTED, "compose", 0, 1, 3, 3);
        s.refused(Script.UNSUPPORTED, "compose", 0, 4, 1, 4);
        s.refused(Script.UNSUPPORTED, "compose", 0, 0, 0, 0);
        for (int wrong : new int[] {-1, 7, LOW, HIGH}) {
            s.refused(Script.OUT, "compose", 0, wrong, 3, 5);
            s.refused(Script.OUT, "compose", 0, 4, wrong, 5);
            s.refused(Script.OUT, "compose", 0, 4, 3, wrong);
            s.refused(Script.OUT, "compose", wrong, 4, 3, 5);
        }
        s.refused(Script.OUT, "compose", 0, 0, 0, 7);
        s.due(6, "composite", 0, 4, 3);
        s.call("presheaf", 0);
        s.refused(Script.UNSUPPORTED, "compose", 0, 4, 3, 5);
        s.refused(Script.OUT, "compose", 0, 4, 3, 7);
        s.due(6, "composite", 0, 4, 3);
    }

    private static void promise5() {
        Script s = new Script("promise 5");
        s.call("category", 4);
        s.due(4, "arrows", 0);
        s.call("arrow", 0, 3, 0);
        s.due(5, "arrows", 0);
        for (int wrong : new int[] {-1, 1, LOW, HIGH}) {
            s.refused(Script.OUT, "arrows", wrong);
        }
    }

    private static void promise6() {
        Script s = new Script("promise 6");
        s.call("category", 3);
        s.call("arrow", 0, 0, 1);
        s.call("arrow", 0, 1, 2);
        s.call("arrow", 0, 0, 2);
        s.due(3, "composite", 0, 3, 0);
        s.due(3, "composite", 0, 1, 3);
        s.due(1, "composite", 0, 1, 1);
        s.refused(Script.NONE, "composite", 0, 4, 3);
        s.refused(Script.UNSUPPORTED, "composite", 0, 3, 4);
        s.refused(Script.UNSUPPORTED, "composite", 0, 0, 3);
        s.refused(Script.UNSUPPORTED, "composite", 0, 0, 1);
        s.call("compose", 0, 4, 3, 5);
        s.due(5, "composite", 0, 4, 3);
        for (int wrong : new int[] {-1, 6, LOW, HIGH}) {
            s.refused(Script.OUT, "composite", 0, wrong, 3);
            s.refused(Script.OUT, "composite", 0, 4, wrong);
            s.refused(Script.OUT, "composite", wrong, 4, 3);
        }
        Script t = new Script("promise 6, wrong ends");
        t.call("category", 2);
        t.call("arrow", 0, 0, 0);
        t.call("arrow", 0, 0, 1);
        t.due(-1, "compose", 0, 2, 2, 3);
        t.due(3, "composite", 0, 2, 2);
    }

    private static void promise7() {
        Script s = new Script("promise 7");
        s.call("category", 2);
        s.due(true, "isWhole", 0);
        s.call("arrow", 0, 0, 0);
        s.due(false, "isWhole", 0);
        s.call("compose", 0, 2, 2, 2);
        s.due(true, "isWhole", 0);
        s.call("compose", 0, 2, 2, 1);
        s.due(false, "isWhole", 0);
        s.call("compose", 0, 2, 2, 0);
        s.due(true, "isWhole", 0);
        s.call("arrow", 0, 0, 1);
        s.due(false, "isWhole", 0);
        s.call("compose", 0, 3, 2, 0);
        s.due(false, "isWhole", 0);
        s.call("compose", 0, 3, 2, 1);
        s.due(false, "isWhole", 0);
        s.call("compose", 0, 3, 2, 3);
        s.due(true, "isWhole", 0);
        for (int wrong : new int[] {-1, 1, LOW, HIGH}) {
            s.refused(Script.OUT, "isWhole", wrong);
        }
        // 2 behind 1 behind 1 would be 2 one way and 1 the other way.
        Script t = new Script("promise 7, three the same either way");
        t.monoid(new int[] {2, 1}, new int[] {1, 1});
        t.due(false, "isWhole", 0);
        t.refused(Script.UNSUPPORTED, "presheaf", 0);
        t.call("compose", 0, 1, 1, 1);
        t.call("compose", 0, 1, 2, 2);
        t.call("compose", 0, 2, 1, 2);
        t.call("compose", 0, 2, 2, 1);
        t.due(true, "isWhole", 0);
        Script u = new Script("promise 7, constants");
        u.constants(11);
        u.due(true, "isWhole", 0);
        u.due(11, "compose", 0, 11, 11, 10);
        u.due(false, "isWhole", 0);
    }

    private static void promise8() {
        Script s = new Script("promise 8");
        s.chain();
        s.constants(2);
        s.call("cover", 0, 2, 0);
        s.due(2, "opposite", 0);
        s.due(true, "isWhole", 2);
        s.due(6, "arrows", 2);
        s.due(5, "composite", 2, 3, 4);
        s.refused(Script.UNSUPPORTED, "composite", 2, 4, 3);
        s.due(3, "composite", 2, 0, 3);
        s.due(4, "composite", 2, 1, 4);
        s.due(1 + 8 + 32, "leastCover", 2, 0);
        s.due(0, "uncover", 2);
        s.due(3, "opposite", 1);
        s.due(1, "composite", 1, 1, 2);
        s.due(2, "composite", 3, 1, 2);
        s.due(1, "composite", 3, 2, 1);
        s.refused(Script.UNSUPPORTED, "arrow", 0, 0, 0);
        s.refused(Script.UNSUPPORTED, "arrow", 1, 0, 0);
        s.due(6, "arrow", 2, 0, 0);
        s.due(false, "isWhole", 2);
        s.refused(Script.UNSUPPORTED, "opposite", 2);
        s.due(4, "opposite", 3);
        s.due(1, "composite", 4, 1, 2);
        s.call("category", 1);
        s.refused(Script.STATE, "opposite", 5);
        s.due(1, "arrow", 5, 0, 0);
        s.refused(Script.UNSUPPORTED, "opposite", 5);
        s.refused(Script.OUT, "opposite", 6);
        s.refused(Script.OUT, "opposite", -1);
    }

    private static void promise9() {
        Script s = new Script("promise 9");
        s.arrow();
        s.idempotent();
        s.due(2, "times", 0, 0);
        s.due(9, "arrows", 2);
        s.due(true, "isWhole", 2);
        int[][] ends = {{4, 0, 1}, {5, 2, 3}, {6, 0, 2}, {7, 1, 3}, {8, 0, 3}};
        for (int[] row : ends) {
            s.due(row[0], "composite", 2, row[0], row[1]);
            s.due(row[0], "composite", 2, row[2], row[0]);
        }
        s.due(8, "composite", 2, 7, 4);
        s.due(8, "composite", 2, 5, 6);
        s.due(3, "times", 0, 1);
        // 0 -> 1 with the idempotent: (0,e) 2, (1,e) 3, (2,1) 4, (2,e) 5.
        s.due(6, "arrows", 3);
        s.due(2, "composite", 3, 2, 2);
        s.due(3, "composite", 3, 3, 3);
        s.due(5, "composite", 3, 4, 2);
        s.due(5, "composite", 3, 3, 4);
        s.due(5, "composite", 3, 5, 2);
        s.due(4, "times", 1, 0);
        // The other way round: (1,2) 2, (e,0) 3, (e,1) 4, (e,2) 5.
        s.due(3, "composite", 4, 3, 3);
        s.due(2, "composite", 4, 2, 0);
        s.due(5, "composite", 4, 4, 2);
        s.due(5, "composite", 4, 2, 3);
        s.refused(Script.UNSUPPORTED, "arrow", 0, 0, 0);
        s.refused(Script.UNSUPPORTED, "arrow", 1, 0, 0);
        s.due(9, "arrow", 2, 0, 0);
        s.due(false, "isWhole", 2);
        s.call("category", 1);
        s.refused(Script.STATE, "times", 1, 1);
        s.refused(Script.UNSUPPORTED, "times", 2, 0);
        s.refused(Script.OUT, "times", 6, 0);
        s.refused(Script.OUT, "times", 0, 6);
        s.refused(Script.OUT, "times", -1, 2);
        inverses9();
        bounds9();
    }

    /** There and back, with two objects: composites are identities of pairs. */
    private static void inverses9() {
        Script s = new Script("promise 9, there and back");
        s.call("category", 2);
        s.call("arrow", 0, 0, 1);
        s.call("arrow", 0, 1, 0);
        s.call("compose", 0, 3, 2, 0);
        s.call("compose", 0, 2, 3, 1);
        s.call("category", 2);
        s.due(2, "times", 0, 1);
        s.due(3, "times", 1, 0);
        // Second, first and what comes of them, in the one product and in the other one.
        int[][] rows = {{6, 4, 0}, {4, 6, 2}, {7, 5, 1}, {5, 7, 3}};
        int[][] others = {{5, 4, 0}, {4, 5, 1}, {7, 6, 2}, {6, 7, 3}};
        for (int i = 0; i < 4; i++) {
            s.due(rows[i][2], "composite", 2, rows[i][0], rows[i][1]);
            s.due(others[i][2], "composite", 3, others[i][0], others[i][1]);
            s.refused(Script.UNSUPPORTED, "composite", 2, 4 + i, 4 + i);
            s.refused(Script.UNSUPPORTED, "composite", 3, 4 + i, 4 + i);
        }
        for (int made = 2; made < 4; made++) {
            s.due(true, "isWhole", made);
            s.due(8, "arrows", made);
            s.due(8, "inverses", made);
        }
    }

    private static void bounds9() {
        Script s = new Script("promise 9, bounds");
        s.constants(2);
        s.constants(3);
        s.call("category", 2);
        s.call("category", 3);
        s.refused(Script.UNSUPPORTED, "times", 1, 1);
        s.refused(Script.UNSUPPORTED, "times", 2, 3);
        s.due(3, "arrow", 3, 0, 0);
        s.refused(Script.UNSUPPORTED, "times", 0, 3);
        s.refused(Script.UNSUPPORTED, "times", 3, 0);
        s.due(4, "times", 0, 1);
        s.due(12, "arrows", 4);
        s.due(true, "isWhole", 4);
        s.due(5, "times", 2, 2);
        s.due(4, "arrows", 5);
        s.refused(Script.STATE, "times", 2, 2);
        s.refused(Script.UNSUPPORTED, "times", 4, 4);
    }

    private static void promise10() {
        Script s = new Script("promise 10");
        s.swap();
        s.turn();
        s.idempotent();
        s.arrow();
        s.due(2, "inverses", 0);
        s.due(3, "inverses", 1);
        s.due(1, "inverses", 2);
        s.due(2, "inverses", 3);
        s.due(4, "category", 2);
        s.call("arrow", 4, 0, 1);
        s.call("arrow", 4, 1, 0);
        s.refused(Script.UNSUPPORTED, "inverses", 4);
        s.call("compose", 4, 3, 2, 0);
        s.call("compose", 4, 2, 3, 1);
        s.due(4, "inverses", 4);
        // A retraction: 3 behind 2 is the identity, but 2 behind 3 is not.
        s.due(5, "category", 2);
        s.call("arrow", 5, 0, 1);
        s.call("arrow", 5, 1, 0);
        s.call("arrow", 5, 1, 1);
        int[][] told = {{3, 2, 0}, {2, 3, 4}, {4, 4, 4}, {4, 2, 2}, {3, 4, 3}};
        for (int[] row : told) {
            s.call("compose", 5, row[0], row[1], row[2]);
        }
        s.due(2, "inverses", 5);
        s.refused(Script.OUT, "inverses", 6);
        s.refused(Script.OUT, "inverses", -1);
    }

    public static void main(String[] args) {
        promise1();
        promise2();
        promise3();
        promise4();
        promise5();
        promise6();
        promise7();
        promise8();
        promise9();
        promise10();
        Script.end("promises 1 to 10");
    }
}
