/** The sentences of 'Terms' that say how many there may be, what is whole and what is fixed. */
public final class TermsTest {
    private static final String[] MAKERS = {"presheaf", "represent", "truth", "x", "+", "^", "plus", "b", "l", "r"};

    private TermsTest() {
    }

    // ---- "At most 6 categories have numbers from 0 on, each with 1 to 4 objects and at most 12 arrows ..."

    /** Each of the calls that add categories makes the sixth one, and none makes a seventh one. */
    private static void sixCategories() {
        Object[][] makers = {{"category", 3}, {"opposite", 0}, {"times", 0, 0}};
        for (Object[] maker : makers) {
            Script s = new Script("six categories by " + maker[0]);
            s.due(0, "category", 2);
            Object[] arguments = java.util.Arrays.copyOfRange(maker, 1, maker.length);
            for (int i = 1; i < 6; i++) {
                s.refused(Script.OUT, "arrows", i);
                s.due(i, (String) maker[0], arguments);
            }
            s.refused(Script.OUT, "arrows", 6);
            for (Object[] other : makers) {
                s.refused(Script.STATE, (String) other[0], java.util.Arrays.copyOfRange(other, 1, other.length));
            }
            s.due(true, "isWhole", 5);
            s.due(0, "presheaf", 5);
            // None is taken away with its presheaves, so that there is no room afterwards either.
            s.due(0, "drop");
            s.refused(Script.STATE, "category", 1);
        }
    }

    private static void oneToFourObjects() {
        Script s = new Script("1 to 4 objects");
        s.refused(Script.ILLEGAL, "category", 0);
        s.refused(Script.ILLEGAL, "category", 5);
        for (int objects = 1; objects < 5; objects++) {
            s.due(objects - 1, "category", objects);
            s.due(objects, "arrows", objects - 1);
            s.due(objects - 1, "composite", objects - 1, objects - 1, objects - 1);
            s.refused(Script.OUT, "composite", objects - 1, objects, objects);
            s.refused(Script.OUT, "arrow", objects - 1, objects, 0);
            s.due(objects, "arrow", objects - 1, objects - 1, objects - 1);
        }
    }

    private static void productsOfObjects() {
        int[][] sizes = {{1, 4, 1}, {4, 1, 1}, {2, 2, 1}, {1, 3, 1}, {2, 3, 0}, {3, 2, 0}, {3, 3, 0}, {4, 2, 0}, {2, 4, 0},
            {4, 4, 0}};
        for (int[] row : sizes) {
            Script s = new Script("a product of " + row[0] + " and " + row[1] + " objects");
            s.call("category", row[0]);
            s.call("category", row[1]);
            if (row[2] == 1) {
                s.due(2, "times", 0, 1);
                s.due(row[0] * row[1], "arrows", 2);
                s.refused(Script.OUT, "sieves", 2, row[0] * row[1]);
                s.due(2, "sieves", 2, row[0] * row[1] - 1);
            } else {
                s.refused(Script.UNSUPPORTED, "times", 0, 1);
                s.due(row[0], "arrow", 0, 0, 0);
                s.due(row[1], "arrow", 1, 0, 0);
            }
        }
    }

    /** Identities are counted: with more objects there are fewer other arrows. */
    private static void twelveArrows() {
        for (int objects = 1; objects < 5; objects++) {
            Script s = new Script("12 arrows of " + objects + " objects");
            s.call("category", objects);
            for (int arrow = objects; arrow < 12; arrow++) {
                s.due(arrow, "arrow", 0, 0, objects - 1);
                s.due(arrow + 1, "arrows", 0);
            }
            s.refused(Script.STATE, "arrow", 0, 0, objects - 1);
            s.refused(Script.STATE, "arrow", 0, objects - 1, 0);
            s.refused(Script.OUT, "arrow", 0, 0, objects);
            s.due(12, "arrows", 0);
            s.refused(Script.OUT, "composite", 0, 12, 0);
            s.refused(Script.OUT, "composite", 0, 0, 12);
            s.due(11, "composite", 0, 11, 0);
        }
    }

    private static void productsOfArrows() {
        int[][] sizes = {{1, 12, 1}, {12, 1, 1}, {2, 6, 1}, {6, 2, 1}, {3, 4, 1}, {4, 3, 1}, {2, 7, 0}, {7, 2, 0}, {4, 4, 0},
            {5, 3, 0}, {3, 5, 0}, {12, 2, 0}, {2, 12, 0}, {12, 12, 0}};
        for (int[] row : sizes) {
            Script s = new Script("a product of " + row[0] + " and " + row[1] + " arrows");
            s.constants(row[0] - 1);
            s.constants(row[1] - 1);
            if (row[2] == 1) {
                s.due(2, "times", 0, 1);
                s.due(12, "arrows", 2);
                s.due(true, "isWhole", 2);
                s.refused(Script.STATE, "arrow", 2, 0, 0);
                s.due(3, "opposite", 2);
                s.due(12, "arrows", 3);
            } else {
                s.refused(Script.UNSUPPORTED, "times", 0, 1);
            }
        }
        // Few objects and many arrows, and the other way round: either is too much alone.
        Script s = new Script("too much of one alone");
        s.parallel(5);
        s.call("category", 2);
        s.call("category", 3);
        s.refused(Script.UNSUPPORTED, "times", 0, 1);
        s.refused(Script.UNSUPPORTED, "times", 2, 1);
        s.due(3, "times", 1, 1);
        s.parallel(4);
        s.due(5, "times", 4, 1);
        s.due(12, "arrows", 5);
    }

    /** "the arrow with the number of an object is its identity" and "Composites with identities are what they must be". */
    private static void identities() {
        Script s = new Script("identities");
        s.call("category", 4);
        s.call("arrow", 0, 1, 3);
        s.call("arrow", 0, 3, 1);
        s.call("arrow", 0, 2, 2);
        int[][] ends = {{0, 0}, {1, 1}, {2, 2}, {3, 3}, {1, 3}, {3, 1}, {2, 2}};
        for (int arrow = 0; arrow < ends.length; arrow++) {
            for (int object = 0; object < 4; object++) {
                if (object == ends[arrow][0]) {
                    s.due(arrow, "composite", 0, arrow, object);
                } else {
                    s.refused(Script.UNSUPPORTED, "composite", 0, arrow, object);
                }
                if (object == ends[arrow][1]) {
                    s.due(arrow, "composite", 0, object, arrow);
                } else {
                    s.refused(Script.UNSUPPORTED, "composite", 0, object, arrow);
                }
                s.refused(Script.UNSUPPORTED, "compose", 0, arrow, object, arrow);
                s.refused(Script.UNSUPPORTED, "compose", 0, object, arrow, arrow);
            }
        }
    }

    /** "a second arrow behind a first one, if the first one ends where the second one begins". */
    private static void endsMeet() {
        Script s = new Script("ends meet");
        int[][] ends = {{0, 0}, {1, 1}, {2, 2}, {0, 1}, {1, 2}, {2, 0}, {1, 0}, {2, 2}};
        s.call("category", 3);
        for (int arrow = 3; arrow < ends.length; arrow++) {
            s.due(arrow, "arrow", 0, ends[arrow][0], ends[arrow][1]);
        }
        for (int second = 3; second < ends.length; second++) {
            for (int first = 3; first < ends.length; first++) {
                if (ends[first][1] == ends[second][0]) {
                    s.refused(Script.NONE, "composite", 0, second, first);
                    s.due(-1, "compose", 0, second, first, second);
                    s.due(second, "compose", 0, second, first, first);
                    s.due(first, "composite", 0, second, first);
                } else {
                    s.refused(Script.UNSUPPORTED, "composite", 0, second, first);
                    s.refused(Script.UNSUPPORTED, "compose", 0, second, first, second);
                }
            }
        }
    }

    // ---- "A category is whole if ..."

    private static void wholeIfTold() {
        int[][] rows = {{1, 1, 2}, {1, 2, 0}, {2, 1, 0}, {2, 2, 1}};
        for (int untold = 0; untold < 4; untold++) {
            Script s = new Script("whole if all composites are told, but for " + untold);
            s.call("category", 1);
            s.call("arrow", 0, 0, 0);
            s.call("arrow", 0, 0, 0);
            for (int i = 0; i < 4; i++) {
                s.due(false, "isWhole", 0);
                if (i != untold) {
                    s.due(-1, "compose", 0, rows[i][0], rows[i][1], rows[i][2]);
                }
            }
            s.due(false, "isWhole", 0);
            notWhole(s, 0);
            s.due(-1, "compose", 0, rows[untold][0], rows[untold][1], rows[untold][2]);
            s.due(true, "isWhole", 0);
            s.due(0, "presheaf", 0);
        }
    }

    private static void notWhole(Script s, int category) {
        s.due(false, "isWhole", category);
        for (String name : new String[] {"opposite", "inverses", "presheaf", "truth"}) {
            s.refused(Script.UNSUPPORTED, name, category);
        }
        for (String name : new String[] {"times", "functor", "represent", "sieves", "leastCover"}) {
            s.refused(Script.UNSUPPORTED, name, category, 0);
        }
        s.refused(Script.UNSUPPORTED, "times", category, category);
        s.refused(Script.UNSUPPORTED, "functor", category, category);
        s.refused(Script.UNSUPPORTED, "cover", category, 0, 0);
        s.refused(Script.UNSUPPORTED, "covers", category, 0, 0);
        s.due(0, "uncover", category);
    }

    /** "each goes from where the first arrow begins to where the second one ends": each end alone must be right. */
    private static void wholeIfEndsAreRight() {
        Script s = new Script("whole if ends are right");
        s.call("category", 3);
        s.call("arrow", 0, 0, 1);
        s.call("arrow", 0, 1, 2);
        s.call("arrow", 0, 0, 2);
        int[][] composites = {{0, 0}, {1, 0}, {2, 0}, {3, 0}, {4, 0}, {5, 1}};
        for (int[] row : composites) {
            s.call("compose", 0, 4, 3, row[0]);
            s.due(row[0], "composite", 0, 4, 3);
            s.due(row[1] == 1, "isWhole", 0);
        }
        s.call("compose", 0, 4, 3, 4);
        notWhole(s, 0);
    }

    /** "to compose three is the same either way": 1 behind 1 behind 1 alone differs, or three of all kinds. */
    private static void wholeIfThreeAgree() {
        Script s = new Script("whole if three agree");
        // 1 behind 1 is 2, and 2 behind 1 is not 1 behind 2.
        s.monoid(new int[] {2, 1}, new int[] {2, 2});
        notWhole(s, 0);
        s.call("compose", 0, 1, 2, 2);
        s.due(true, "isWhole", 0);
        // Three unlike arrows in a row, from 0 to 3, with two ways to go.
        s.call("category", 4);
        int[][] ends = {{0, 1}, {1, 2}, {2, 3}, {0, 2}, {1, 3}, {0, 3}, {0, 3}};
        for (int[] row : ends) {
            s.call("arrow", 1, row[0], row[1]);
        }
        s.call("compose", 1, 5, 4, 7);
        s.call("compose", 1, 6, 5, 8);
        s.call("compose", 1, 6, 7, 9);
        s.call("compose", 1, 8, 4, 10);
        notWhole(s, 1);
        s.call("compose", 1, 8, 4, 9);
        s.due(true, "isWhole", 1);
    }

    // ---- "A category of which something was made ... is fixed, for good ..."

    private static void isLoose(boolean is, Script s, int category, int arrows) {
        if (is) {
            s.due(arrows, "arrow", category, 0, 0);
        } else {
            s.refused(Script.UNSUPPORTED, "arrow", category, 0, 0);
            s.refused(Script.UNSUPPORTED, "compose", category, 2, 2, 0);
        }
    }

    /** 0 is a point, 1 has two objects, and an arrow that is one behind itself. */
    private static Script fixing(String title) {
        Script s = new Script(title);
        s.call("category", 1);
        s.call("category", 2);
        s.call("arrow", 1, 0, 0);
        s.call("compose", 1, 2, 2, 2);
        return s;
    }

    private static void fixedForGood() {
        Object[][] calls = {{"opposite", 1}, {"times", 1, 0}, {"times", 0, 1}, {"presheaf", 1}, {"represent", 1, 1},
            {"represent", 1, 0}, {"truth", 1}, {"functor", 1, 0}, {"functor", 0, 1}, {"functor", 1, 1}, {"cover", 1, 0, 0},
            {"cover", 1, 0, 4}, {"cover", 1, 0, 5}, {"cover", 1, 1, 2}, {"cover", 1, 1, 0}};
        for (Object[] call : calls) {
            Script s = fixing("fixed for good by " + java.util.Arrays.toString(call));
            s.due(2, "compose", 1, 2, 2, 2);
            s.answered((String) call[0], java.util.Arrays.copyOfRange(call, 1, call.length));
            isLoose(false, s, 1, 3);
            s.call("uncover", 1);
            s.call("uncover", 0);
            isLoose(false, s, 1, 3);
            s.call("drop");
            isLoose(false, s, 1, 3);
            s.due(2, "composite", 1, 2, 2);
            s.due(3, "arrows", 1);
            s.due(true, "isWhole", 1);
        }
    }

    /** What asks, what is refused and what is done to others leaves a category as it is. */
    private static void fixedByNothingElse() {
        Object[][] calls = {{"arrows", 1}, {"composite", 1, 2, 2}, {"isWhole", 1}, {"inverses", 1}, {"sieves", 1, 0},
            {"covers", 1, 0, 4}, {"leastCover", 1, 0}, {"uncover", 1}, {"opposite", 0}, {"times", 0, 0}, {"presheaf", 0},
            {"functor", 0, 0}, {"cover", 0, 0, 0}, {"category", 2}, {"cover", 1, 0, 2}, {"cover", 1, 2, 0},
            {"represent", 1, 2}, {"times", 1, 1}, {"times", 1, 2}, {"functor", 1, 2}, {"functor", 2, 1}, {"drop"},
            {"compose", 1, 2, 2, 0}, {"arrow", 1, 2, 0}, {"checksum"}, {"isSound"}, {"sheafShare"}, {"meanElements"}};
        for (Object[] call : calls) {
            Script s = fixing("not fixed by " + java.util.Arrays.toString(call));
            // A product with itself would have 9 arrows; with one more object there would be too many.
            if (call[0].equals("times") && call[2].equals(1)) {
                s.call("category", 3);
                s.refused(Script.UNSUPPORTED, "times", 1, 2);
                s.refused(Script.UNSUPPORTED, "times", 2, 1);
                isLoose(true, s, 2, 3);
            } else {
                s.call((String) call[0], java.util.Arrays.copyOfRange(call, 1, call.length));
            }
            s.answered("compose", 1, 2, 2, 2);
            isLoose(true, s, 1, 3);
        }
    }

    /** What is refused for want of room, or since it would be too big, fixes nothing. */
    private static void fixedByNoneThatIsRefused() {
        Script s = new Script("not fixed without room");
        s.call("category", 1);
        for (int i = 0; i < 10; i++) {
            s.sets(0, 1);
        }
        for (int i = 0; i < 4; i++) {
            s.due(i, "functor", 0, 0);
        }
        s.call("category", 2);
        s.parallel(5);
        s.call("category", 2);
        s.call("category", 1);
        s.call("category", 1);
        for (String name : new String[] {"presheaf", "truth", "opposite"}) {
            s.refused(Script.STATE, name, 1);
        }
        s.refused(Script.STATE, "represent", 1, 0);
        s.refused(Script.STATE, "functor", 1, 3);
        s.refused(Script.STATE, "times", 1, 3);
        s.refused(Script.UNSUPPORTED, "represent", 2, 1);
        s.refused(Script.UNSUPPORTED, "truth", 2);
        s.refused(Script.UNSUPPORTED, "times", 2, 3);
        s.refused(Script.STATE, "times", 4, 5);
        for (int category = 1; category < 6; category++) {
            s.due(new int[] {0, 2, 7, 2, 1, 1}[category], "arrow", category, 0, 0);
        }
    }

    /** "What is made of it is not fixed by that, and has no covers." */
    private static void madeIsLoose() {
        Script s = new Script("what is made is not fixed");
        s.arrow();
        s.due(2, "cover", 0, 1, 4);
        s.call("category", 1);
        s.due(2, "opposite", 0);
        s.due(3, "times", 0, 1);
        s.due(4, "times", 1, 0);
        s.due(5, "times", 0, 0);
        for (int made = 2; made < 6; made++) {
            s.due(0, "uncover", made);
        }
        s.due(4, "leastCover", 0, 1);
        s.due(1 + 4, "leastCover", 2, 0);
        s.due(2, "leastCover", 2, 1);
        for (int made = 3; made < 5; made++) {
            s.due(2 + 4, "leastCover", made, 1);
            s.due(false, "covers", made, 1, 4);
        }
        s.due(8 + 128 + 256 + 32, "leastCover", 5, 3);
        s.due(3, "arrow", 2, 0, 1);
        for (int made = 3; made < 5; made++) {
            s.due(3, "arrow", made, 1, 0);
        }
        for (int made = 2; made < 5; made++) {
            s.due(-1, "compose", made, 3, 2, made == 2 ? 1 : 0);
        }
        s.due(9, "arrow", 5, 0, 0);
        s.due(1, "uncover", 0);
        isLoose(false, s, 0, 3);
        // Nor does what happens to the one that was made come back to that of which it was made.
        Script t = new Script("what is made is another one");
        t.arrow();
        t.due(1, "opposite", 0);
        t.due(2, "cover", 1, 0, 4);
        t.due(2 + 4, "leastCover", 0, 1);
        t.due(0, "uncover", 0);
        t.due(1, "uncover", 1);
    }

    // ---- "At most 10 presheaves have numbers from 0 on ..."

    /** The category 0 and its presheaf 0 with one element, a functor that changes nothing, a point each. */
    private static Script making(String title) {
        Script s = new Script(title);
        s.call("category", 1);
        s.sets(0, 1);
        s.call("functor", 0, 0);
        s.call("sendObject", 0, 0, 0);
        return s;
    }

    private static Object[] arguments(String maker) {
        switch (maker) {
            case "x", "+", "^":
                return new Object[] {"combine", 0, 0, maker.charAt(0)};
            case "b", "l", "r":
                return new Object[] {"move", 0, 0, maker.charAt(0)};
            case "represent":
                return new Object[] {maker, 0, 0};
            default:
                return new Object[] {maker, 0};
        }
    }

    private static void made(Script s, Object want, String maker) {
        Object[] call = arguments(maker);
        s.due(want, (String) call[0], java.util.Arrays.copyOfRange(call, 1, call.length));
    }

    private static void tenPresheaves() {
        for (String maker : MAKERS) {
            Script s = making("ten presheaves by " + maker);
            for (int i = 1; i < 10; i++) {
                s.refused(Script.OUT, "isPresheaf", i);
                made(s, i, maker);
            }
            s.due(true, "isPresheaf", 9);
            s.refused(Script.OUT, "isPresheaf", 10);
            for (String other : MAKERS) {
                made(s, Script.STATE, other);
            }
            s.due(9, "drop");
            s.refused(Script.OUT, "isPresheaf", 9);
            made(s, 9, maker);
            made(s, Script.STATE, maker);
        }
    }

    /** Elements are counted object by object: 4 at each one. */
    private static void fourElements() {
        Script s = new Script("four elements");
        s.call("category", 4);
        s.call("presheaf", 0);
        for (int element = 0; element < 4; element++) {
            for (int object = 3; object >= 0; object--) {
                s.due(element, "size", 0, object);
                s.due(element, "element", 0, object);
            }
        }
        for (int object = 0; object < 4; object++) {
            s.refused(Script.STATE, "element", 0, object);
            s.due(4, "size", 0, object);
        }
        s.refused(Script.OUT, "element", 0, 4);
        s.due(65536, "parts", 0);
        s.due(1, "presheaf", 0);
        s.due(0, "element", 1, 3);
    }

    /** "Actions of identities leave all as it is." */
    private static void identitiesActNot() {
        Script s = new Script("identities leave all as it is");
        s.arrow();
        s.sets(0, 4, 3);
        s.actsAs(0, 0, 0, 1, 2, 3);
        s.actsAs(0, 1, 0, 1, 2);
        for (int element = 0; element < 3; element++) {
            s.refused(Script.UNSUPPORTED, "act", 0, 1, element, element);
            s.refused(Script.UNSUPPORTED, "act", 0, 0, element, 0);
        }
        s.call("element", 0, 1);
        s.due(3, "image", 0, 1, 3);
        s.refused(Script.NONE, "image", 0, 2, 3);
    }

    /** "A presheaf is whole if all actions are told, and that of a composite is ..." */
    private static void wholePresheaves() {
        for (int untold = 0; untold < 6; untold++) {
            Script s = new Script("a whole presheaf but for " + untold);
            s.chain();
            s.sets(0, 2, 2, 2);
            int[][] rows = {{3, 0, 1}, {3, 1, 0}, {4, 0, 1}, {4, 1, 1}, {5, 0, 0}, {5, 1, 0}};
            for (int i = 0; i < 6; i++) {
                if (i != untold) {
                    s.due(-1, "act", 0, rows[i][0], rows[i][1], rows[i][2]);
                }
            }
            s.refused(Script.NONE, "image", 0, rows[untold][0], rows[untold][1]);
            notWholePresheaf(s);
            s.due(-1, "act", 0, rows[untold][0], rows[untold][1], 1 - rows[untold][2]);
            // Of what is told wrongly only that of 3 on 0 is used by no composite.
            s.due(untold == 0, "isPresheaf", 0);
            if (untold != 0) {
                notWholePresheaf(s);
            }
            s.due(1 - rows[untold][2], "act", 0, rows[untold][0], rows[untold][1], rows[untold][2]);
            s.due(true, "isPresheaf", 0);
            s.due(2, "element", 0, 0);
            s.due(true, "isPresheaf", 0);
            s.due(2, "element", 0, 1);
            notWholePresheaf(s);
        }
    }

    private static void notWholePresheaf(Script s) {
        s.due(false, "isPresheaf", 0);
        for (String name : new String[] {"sections", "parts", "isBoolean", "isSeparated", "isSheaf", "plus"}) {
            s.refused(Script.UNSUPPORTED, name, 0);
        }
        for (String name : new String[] {"maps", "areAlike", "least"}) {
            s.refused(Script.UNSUPPORTED, name, 0, 0);
        }
        for (char kind : new char[] {'x', '+', '^'}) {
            s.refused(Script.UNSUPPORTED, "combine", 0, 0, kind);
        }
        for (char kind : new char[] {'&', '|', '>'}) {
            s.refused(Script.UNSUPPORTED, "join", 0, 0, 0, kind);
        }
        s.refused(Script.UNSUPPORTED, "mapped", 0, 0, 0, 0);
        s.refused(Script.UNSUPPORTED, "truthOf", 0, 0, 0);
        s.refused(Script.ARITHMETIC, "sheafShare");
    }

    /** "All elements have places, object by object, by rising numbers": however they were added. */
    private static void places() {
        Script s = new Script("places");
        s.call("category", 3);
        s.call("presheaf", 0);
        for (int object : new int[] {2, 0, 2, 1, 0, 2}) {
            s.call("element", 0, object);
        }
        // Two at 0, one at 1 and three at 2: what is true at a place is of the place's object.
        int[] objects = {0, 0, 1, 2, 2, 2};
        for (int place = 0; place < 6; place++) {
            s.due(1 << place, "least", 0, 1 << place);
            s.due(1 << objects[place], "truthOf", 0, 1 << place, place);
            s.due(0, "truthOf", 0, 63 - (1 << place), place);
        }
        s.refused(Script.OUT, "truthOf", 0, 0, 6);
        s.refused(Script.ILLEGAL, "least", 0, 64);
        // One more at the first object moves all others by one.
        s.call("element", 0, 0);
        s.due(2, "truthOf", 0, 8, 3);
        s.due(1, "truthOf", 0, 4, 2);
        s.due(64, "least", 0, 64);
    }

    // ---- "At most 4 functors have numbers from 0 on ..."

    private static void fourFunctors() {
        Script s = new Script("four functors");
        s.call("category", 1);
        s.call("category", 2);
        for (int i = 0; i < 4; i++) {
            s.refused(Script.OUT, "isFunctor", i);
            s.due(i, "functor", i % 2, 1 - i / 2);
            s.due(false, "isFunctor", i);
        }
        s.refused(Script.OUT, "isFunctor", 4);
        for (int first = 0; first < 2; first++) {
            for (int second = 0; second < 2; second++) {
                s.refused(Script.STATE, "functor", first, second);
            }
        }
        s.due(-1, "sendObject", 3, 1, 0);
        s.refused(Script.OUT, "sendObject", 3, 1, 1);
    }

    /** "each from a whole category to a whole one, perhaps the same". */
    private static void functorsOfWholes() {
        Script s = new Script("functors of whole categories");
        s.call("category", 1);
        s.call("category", 1);
        s.call("arrow", 1, 0, 0);
        s.refused(Script.UNSUPPORTED, "functor", 0, 1);
        s.refused(Script.UNSUPPORTED, "functor", 1, 0);
        s.refused(Script.UNSUPPORTED, "functor", 1, 1);
        s.due(0, "functor", 0, 0);
        s.call("compose", 1, 1, 1, 1);
        s.due(1, "functor", 0, 1);
        s.due(2, "functor", 1, 0);
        s.due(3, "functor", 1, 1);
    }

    /** "It is whole if all is told, arrows go from and to where they must, and composites go to composites." */
    private static void wholeFunctors() {
        Script s = new Script("whole functors");
        s.chain();
        s.parallel(2);
        s.call("functor", 0, 1);
        s.call("functor", 0, 0);
        for (int told = 0; told < 6; told++) {
            s.due(false, "isFunctor", 1);
            s.due(-1, told < 3 ? "sendObject" : "sendArrow", 1, told, told);
        }
        s.due(true, "isFunctor", 1);
        // Both arrows of the chain go where they must, but for one of them, which begins or ends elsewhere.
        s.call("sendArrow", 1, 3, 5);
        s.due(false, "isFunctor", 1);
        s.call("sendArrow", 1, 3, 0);
        s.due(false, "isFunctor", 1);
        s.call("sendArrow", 1, 3, 3);
        s.call("sendArrow", 1, 4, 2);
        s.due(false, "isFunctor", 1);
        s.call("sendArrow", 1, 4, 4);
        s.due(true, "isFunctor", 1);
        // To two arrows side by side: 3 goes to one, 4 to an identity, so that 5 must go to the same one.
        int[] objects = {0, 1, 1};
        for (int object = 0; object < 3; object++) {
            s.call("sendObject", 0, object, objects[object]);
        }
        s.call("sendArrow", 0, 3, 2);
        s.call("sendArrow", 0, 4, 1);
        s.call("sendArrow", 0, 5, 3);
        s.due(false, "isFunctor", 0);
        s.call("sendArrow", 0, 5, 2);
        s.due(true, "isFunctor", 0);
    }

    private static void functorsEachUntold() {
        for (int untold = 0; untold < 6; untold++) {
            Script s = new Script("a functor but for " + untold);
            s.chain();
            s.call("functor", 0, 0);
            s.sets(0, 1, 1, 1);
            for (int arrow = 3; arrow < 6; arrow++) {
                s.acts(0, arrow, 0);
            }
            for (int i = 0; i < 6; i++) {
                if (i != untold) {
                    s.due(-1, i < 3 ? "sendObject" : "sendArrow", 0, i, i);
                }
            }
            s.due(false, "isFunctor", 0);
            for (char way : new char[] {'b', 'l', 'r'}) {
                s.refused(Script.UNSUPPORTED, "move", 0, 0, way);
            }
            s.due(-1, untold < 3 ? "sendObject" : "sendArrow", 0, untold, untold);
            s.due(true, "isFunctor", 0);
            for (char way : new char[] {'b', 'l', 'r'}) {
                s.answered("move", 0, 0, way);
            }
        }
    }

    public static void main(String[] args) {
        sixCategories();
        oneToFourObjects();
        productsOfObjects();
        twelveArrows();
        productsOfArrows();
        identities();
        endsMeet();
        wholeIfTold();
        wholeIfEndsAreRight();
        wholeIfThreeAgree();
        fixedForGood();
        fixedByNothingElse();
        fixedByNoneThatIsRefused();
        madeIsLoose();
        tenPresheaves();
        fourElements();
        identitiesActNot();
        wholePresheaves();
        places();
        fourFunctors();
        functorsOfWholes();
        wholeFunctors();
        functorsEachUntold();
        Script.end("terms");
    }
}
