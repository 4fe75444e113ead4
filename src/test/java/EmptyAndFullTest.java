/** What each call does in a house without anything, with the least that there can be, and with all that there can be. */
public final class EmptyAndFullTest {
    /** All calls with a number of a category, presheaf or functor first, and arguments that fit the least ones. */
    private static final Object[][] OF_CATEGORIES = {{"arrow", 0, 0, 0}, {"compose", 0, 0, 0, 0}, {"arrows", 0},
        {"composite", 0, 0, 0}, {"isWhole", 0}, {"opposite", 0}, {"times", 0, 0}, {"inverses", 0}, {"presheaf", 0},
        {"represent", 0, 0}, {"truth", 0}, {"sieves", 0, 0}, {"cover", 0, 0, 0}, {"uncover", 0}, {"covers", 0, 0, 0},
        {"leastCover", 0, 0}, {"functor", 0, 0}};
    private static final Object[][] OF_PRESHEAVES = {{"element", 0, 0}, {"act", 0, 0, 0, 0}, {"size", 0, 0},
        {"image", 0, 0, 0}, {"isPresheaf", 0}, {"combine", 0, 0, 'x'}, {"combine", 0, 0, '+'}, {"combine", 0, 0, '^'},
        {"combine", 0, 0, '?'}, {"maps", 0, 0}, {"mapped", 0, 0, 0, 0}, {"areAlike", 0, 0}, {"sections", 0}, {"parts", 0},
        {"join", 0, 0, 0, '&'}, {"join", 0, 0, 0, '|'}, {"join", 0, 0, 0, '>'}, {"join", 0, -1, -1, '?'}, {"least", 0, 0},
        {"least", 0, -1}, {"truthOf", 0, 0, 0}, {"truthOf", 0, -1, 0}, {"isBoolean", 0}, {"isSeparated", 0},
        {"isSheaf", 0}, {"plus", 0}};
    private static final Object[][] OF_FUNCTORS = {{"sendObject", 0, 0, 0}, {"sendArrow", 0, 0, 0}, {"isFunctor", 0},
        {"move", 0, 0, 'b'}, {"move", 0, 0, 'l'}, {"move", 0, 0, 'r'}, {"move", 0, 0, '?'}};
    private static final int[] NUMBERS = {0, 1, 3, 4, 5, 6, 9, 10, -1, Integer.MIN_VALUE, Integer.MAX_VALUE};

    private EmptyAndFullTest() {
    }

    private static void none(Script s, Object[][]... calls) {
        for (Object[][] group : calls) {
            for (Object[] call : group) {
                for (int number : NUMBERS) {
                    Object[] arguments = java.util.Arrays.copyOfRange(call, 1, call.length);
                    arguments[0] = number;
                    s.refused(Script.OUT, (String) call[0], arguments);
                }
            }
        }
    }

    private static void noFigures(Script s) {
        s.refused(Script.STATE, "drop");
        s.refused(Script.ARITHMETIC, "sheafShare");
        s.refused(Script.ARITHMETIC, "meanElements");
        s.due(7L, "checksum");
        s.due(true, "isSound");
    }

    /** "Creates a house without categories." */
    private static void emptyHouse() {
        Script s = new Script("an empty house");
        none(s, OF_CATEGORIES, OF_PRESHEAVES, OF_FUNCTORS);
        noFigures(s);
        s.refused(Script.ILLEGAL, "category", 0);
        s.refused(Script.ILLEGAL, "category", 5);
        none(s, OF_CATEGORIES, OF_PRESHEAVES, OF_FUNCTORS);
        s.due(0, "category", 1);
    }

    private static void categoriesAlone() {
        Script s = new Script("categories without presheaves and functors");
        for (int i = 0; i < 6; i++) {
            s.due(i, "category", 1);
        }
        none(s, OF_PRESHEAVES, OF_FUNCTORS);
        noFigures(s);
        s.due(0, "functor", 0, 0);
        s.due(-1, "sendObject", 0, 0, 0);
        s.due(true, "isFunctor", 0);
        none(s, OF_PRESHEAVES);
        for (char way : new char[] {'b', 'l', 'r', '?'}) {
            s.refused(Script.OUT, "move", 0, 0, way);
        }
        s.due(0, "presheaf", 0);
        s.due(0, "drop");
        none(s, OF_PRESHEAVES);
        noFigures(s);
    }

    /** One object and its identity are the least that there can be. */
    private static void leastCategory() {
        Script s = new Script("a point");
        s.due(0, "category", 1);
        s.due(1, "arrows", 0);
        s.due(0, "composite", 0, 0, 0);
        s.due(true, "isWhole", 0);
        s.due(1, "inverses", 0);
        s.due(2, "sieves", 0, 0);
        s.due(1, "leastCover", 0, 0);
        s.due(true, "covers", 0, 0, 1);
        s.due(false, "covers", 0, 0, 0);
        s.due(0, "uncover", 0);
        s.due(1, "opposite", 0);
        s.due(2, "times", 0, 1);
        s.due(1, "arrows", 2);
        s.due(0, "truth", 0);
        s.sizesAre(0, 2);
        s.due(1, "represent", 0, 0);
        s.sizesAre(1, 1);
        s.due(2, "cover", 0, 0, 0);
        s.due(0, "leastCover", 0, 0);
        s.due(true, "covers", 0, 0, 0);
        s.due(true, "isSheaf", 1);
        s.due(false, "isSeparated", 0);
        s.due(2, "plus", 0);
        s.sizesAre(2, 1);
        s.due(2, "cover", 0, 0, 1);
        s.due(2, "uncover", 0);
        s.due(0, "uncover", 0);
    }

    // ---- presheaves without elements

    private static Script nothing(String title) {
        Script s = new Script(title);
        s.arrow();
        s.due(0, "presheaf", 0);
        return s;
    }

    private static void noElements() {
        Script s = nothing("a presheaf without elements");
        s.sizesAre(0, 0, 0);
        for (int arrow = 0; arrow < 3; arrow++) {
            s.refused(Script.OUT, "image", 0, arrow, 0);
            s.refused(Script.OUT, "act", 0, arrow, 0, 0);
        }
        s.due(0, "sections", 0);
        s.due(1, "parts", 0);
        for (char kind : new char[] {'&', '|', '>'}) {
            s.due(0, "join", 0, 0, 0, kind);
            s.refused(Script.ILLEGAL, "join", 0, 1, 0, kind);
            s.refused(Script.ILLEGAL, "join", 0, 0, 1, kind);
        }
        s.due(0, "least", 0, 0);
        s.refused(Script.ILLEGAL, "least", 0, 1);
        s.refused(Script.OUT, "truthOf", 0, 0, 0);
        s.refused(Script.OUT, "truthOf", 0, 1, 0);
        for (String name : new String[] {"isBoolean", "isSeparated", "isSheaf"}) {
            s.due(true, name, 0);
        }
        s.due(1.0f, "sheafShare");
        s.due(0.0, "meanElements");
        s.due(7L * 31 * 31, "checksum");
        s.due(true, "isSound");
        s.due(0, "drop");
        s.refused(Script.ARITHMETIC, "sheafShare");
    }

    private static void mapsOfNoElements() {
        Script s = nothing("maps from nothing and to nothing");
        s.sets(0, 2, 1);
        s.acts(1, 2, 1);
        s.sets(0, 1, 0);
        s.due(1, "maps", 0, 0);
        s.due(1, "maps", 0, 1);
        s.due(0, "maps", 1, 0);
        s.due(0, "maps", 2, 0);
        s.due(2, "maps", 2, 1);
        s.due(0, "maps", 1, 2);
        for (int other = 0; other < 3; other++) {
            for (int index = -1; index < 3; index++) {
                s.refused(Script.OUT, "mapped", 0, other, index, 0);
                s.refused(Script.OUT, "mapped", 0, other, index, -1);
            }
        }
        for (int index = -1; index < 2; index++) {
            s.refused(Script.NONE, "mapped", 1, 0, index, 0);
            s.refused(Script.NONE, "mapped", 1, 0, index, 2);
            s.refused(Script.OUT, "mapped", 1, 0, index, 3);
        }
        s.due(true, "areAlike", 0, 0);
        for (int other = 1; other < 3; other++) {
            s.due(false, "areAlike", 0, other);
            s.due(false, "areAlike", other, 0);
        }
    }

    private static void madeOfNoElements() {
        Script s = nothing("what is made of nothing");
        s.due(1, "combine", 0, 0, 'x');
        s.sizesAre(1, 0, 0);
        s.due(2, "combine", 0, 0, '+');
        s.sizesAre(2, 0, 0);
        s.due(3, "combine", 0, 0, '^');
        s.sizesAre(3, 1, 1);
        s.actsAs(3, 2, 0);
        s.due(4, "combine", 3, 0, '^');
        s.sizesAre(4, 0, 0);
        s.due(5, "combine", 3, 0, '+');
        s.sizesAre(5, 1, 1);
        s.due(6, "combine", 0, 3, 'x');
        s.sizesAre(6, 0, 0);
        s.due(7, "combine", 0, 3, '^');
        s.sizesAre(7, 1, 1);
        s.due(8, "plus", 0);
        s.sizesAre(8, 0, 0);
        s.due(6.0 / 9.0, "meanElements");
        s.due(1.0f, "sheafShare");
    }

    /** To the left of nothing is nothing; to the right there is one map where no arrow comes from what is sent. */
    private static void movedNothing() {
        Script s = nothing("nothing is moved");
        s.call("category", 1);
        s.call("functor", 1, 0);
        s.call("sendObject", 0, 0, 0);
        s.call("functor", 1, 0);
        s.call("sendObject", 1, 0, 1);
        s.due(1, "presheaf", 1);
        int[][] right = {{0, 0}, {1, 0}};
        for (int functor = 0; functor < 2; functor++) {
            s.due(2, "move", functor, 0, 'b');
            s.sizesAre(2, 0);
            s.due(2, "drop");
            s.due(2, "move", functor, 1, 'l');
            s.sizesAre(2, 0, 0);
            s.due(2, "drop");
            s.due(2, "move", functor, 1, 'r');
            s.sizesAre(2, right[functor]);
            s.due(2, "drop");
        }
    }

    /** The empty sieve has one family, even of what has no elements; pulled back it covers 0, too. */
    private static void emptyCover() {
        Script s = nothing("the empty sieve covers");
        s.sets(0, 1, 1);
        s.acts(1, 2, 0);
        s.sets(0, 2, 2);
        s.acts(2, 2, 0, 1);
        s.due(3, "cover", 0, 1, 0);
        s.due(true, "covers", 0, 0, 0);
        s.due(0, "leastCover", 0, 0);
        s.due(true, "isSeparated", 0);
        s.due(false, "isSheaf", 0);
        s.due(true, "isSheaf", 1);
        s.due(false, "isSeparated", 2);
        s.due(1.0f / 3.0f, "sheafShare");
        s.due(3, "plus", 0);
        s.sizesAre(3, 1, 1);
        s.due(0, "image", 3, 2, 0);
        s.due(4, "plus", 2);
        s.sizesAre(4, 1, 1);
        s.due(1, "uncover", 0);
        s.due(true, "isSheaf", 0);
        s.due(2, "cover", 0, 0, 0);
        // Where it covers 0 alone, nothing over 0 is no sheaf, and 1 may have what it likes.
        s.due(false, "isSheaf", 0);
        s.due(5, "plus", 0);
        s.sizesAre(5, 1, 0);
        s.due(false, "isSeparated", 2);
    }

    // ---- all that there can be

    /**
     * Six categories of four objects and twelve arrows, eight of them from 0 to 3 or back, ten presheaves of the
     * first one with four elements everywhere, and four functors of it to itself; the first one changes nothing.
     */
    private static Script full(String title) {
        Script s = new Script(title);
        s.call("category", 4);
        for (int arrow = 4; arrow < 12; arrow++) {
            s.call("arrow", 0, 0, 3);
        }
        for (int i = 1; i < 6; i++) {
            s.due(i, "opposite", 0);
        }
        s.sets(0, 4, 4, 4, 4);
        for (int arrow = 4; arrow < 12; arrow++) {
            s.acts(0, arrow, arrow % 4, (1 + arrow) % 4, (2 + arrow) % 4, (3 + arrow) % 4);
        }
        for (int i = 0; i < 4; i++) {
            s.due(i, "functor", 0, 0);
        }
        for (int object = 0; object < 4; object++) {
            s.due(-1, "sendObject", 0, object, object);
        }
        for (int arrow = 4; arrow < 12; arrow++) {
            s.due(-1, "sendArrow", 0, arrow, arrow);
        }
        for (int i = 1; i < 10; i++) {
            s.due(i, "move", 0, 0, 'b');
        }
        return s;
    }

    private static void fullRefuses() {
        Script s = full("a full house refuses");
        for (int objects = 1; objects < 5; objects++) {
            s.refused(Script.STATE, "category", objects);
        }
        for (int category = 0; category < 6; category++) {
            s.refused(Script.STATE, "opposite", category);
            s.refused(Script.UNSUPPORTED, "times", category, 0);
            s.refused(Script.UNSUPPORTED, "times", 0, category);
            s.refused(Script.STATE, "presheaf", category);
            s.refused(Script.STATE, "functor", category, 0);
            s.refused(Script.STATE, "functor", 0, category);
            // What goes to the ends of eight arrows is too much.
            int many = category == 0 ? 3 : 0;
            s.refused(Script.UNSUPPORTED, "represent", category, many);
            s.refused(Script.STATE, "represent", category, 3 - many);
            s.refused(Script.UNSUPPORTED, "truth", category);
            s.refused(category == 0 ? Script.UNSUPPORTED : Script.STATE, "arrow", category, 0, 3);
        }
        s.refused(Script.OUT, "arrows", 6);
        s.refused(Script.OUT, "isPresheaf", 10);
        s.refused(Script.OUT, "isFunctor", 4);
        for (int presheaf = 0; presheaf < 10; presheaf++) {
            s.refused(Script.STATE, "element", presheaf, presheaf % 4);
        }
        for (char kind : new char[] {'x', '+', '^'}) {
            s.refused(Script.UNSUPPORTED, "combine", 0, 9, kind);
        }
        for (char way : new char[] {'b', 'l', 'r'}) {
            s.refused(Script.STATE, "move", 0, 9, way);
            s.refused(Script.UNSUPPORTED, "move", 3, 9, way);
        }
        s.refused(Script.STATE, "plus", 9);
        s.refused(Script.UNSUPPORTED, "maps", 0, 9);
        s.refused(Script.UNSUPPORTED, "mapped", 0, 9, 0, 15);
        s.refused(Script.OUT, "mapped", 0, 9, 0, 16);
        s.refused(Script.UNSUPPORTED, "areAlike", 9, 9);
    }

    private static void fullAnswers() {
        Script s = full("a full house answers");
        for (int category = 0; category < 6; category++) {
            s.due(12, "arrows", category);
            s.due(true, "isWhole", category);
            s.due(4, "inverses", category);
            s.due(category == 0 ? 2 : 257, "sieves", category, 0);
            s.due(category == 0 ? 257 : 2, "sieves", category, 3);
            s.due(11, "composite", category, 11, category == 0 ? 0 : 3);
            s.due(0, "uncover", category);
        }
        for (int presheaf = 0; presheaf < 10; presheaf += 9) {
            s.sizesAre(presheaf, 4, 4, 4, 4);
            s.due((3 + 11) % 4, "image", presheaf, 11, 3);
            s.due(0, "sections", presheaf);
            // With any at 3 all at 0 must be there: 16 parts without one at 3 and 15 with some, and any at 1 and 2.
            s.due(256 * 31, "parts", presheaf);
            s.due(false, "isBoolean", presheaf);
            s.due(0xFFFF, "join", presheaf, 0xFFFF, 0xFFFF, '&');
            s.due(0, "join", presheaf, 0xFFFF, 0, '>');
            s.due(0x800F, "least", presheaf, 0x8000);
            s.refused(Script.ILLEGAL, "least", presheaf, 0x10000);
            s.due(0xFF8, "truthOf", presheaf, 0xFFFF, 15);
            s.due(1 << 4 | 1 << 8, "truthOf", presheaf, 8, 15);
            s.due(true, "isSheaf", presheaf);
        }
        s.due(1.0f, "sheafShare");
        s.due(16.0, "meanElements");
        s.due(true, "isSound");
        long sum = 7;
        for (int presheaf = 0; presheaf < 10; presheaf++) {
            for (int object = 0; object < 4; object++) {
                sum = sum * 31 + 4;
            }
            for (int arrow = 0; arrow < 12; arrow++) {
                for (int element = 0; element < 4; element++) {
                    sum = sum * 31 + (arrow < 4 ? element : (element + arrow) % 4);
                }
            }
        }
        s.due(sum, "checksum");
    }

    private static void fullCovers() {
        Script s = full("covers of a full house");
        s.due(2, "cover", 0, 3, 0xFF0);
        s.due(0xFF0, "leastCover", 0, 3);
        s.due(true, "covers", 0, 3, 0xFF8);
        s.due(false, "covers", 0, 3, 0x7F0);
        s.refused(Script.ILLEGAL, "cover", 0, 3, 0x1FF0);
        s.due(true, "isSeparated", 0);
        s.due(false, "isSheaf", 9);
        s.due(0.0f, "sheafShare");
        s.refused(Script.UNSUPPORTED, "plus", 0);
        s.due(1, "uncover", 0);
        s.due(0xFF8, "leastCover", 0, 3);
        // Pulled back along an arrow that is left out it is empty: then all sieves of 0 cover, and so do those of 3.
        s.due(257, "cover", 0, 3, 0xFE0);
        s.due(0, "leastCover", 0, 0);
        s.due(2, "cover", 0, 0, 0);
        s.due(257, "cover", 0, 3, 0);
        s.due(3, "uncover", 0);
        // What covers 1 or 2 is nothing to 3.
        s.due(2, "cover", 0, 1, 0);
        s.due(2, "cover", 0, 2, 0);
        s.due(0xFF8, "leastCover", 0, 3);
        s.due(2, "cover", 0, 3, 0xFF0);
        s.due(3, "uncover", 0);
        s.due(true, "isSheaf", 0);
    }

    /** "Takes the last presheaf away": then there is room for one, of each kind. */
    private static void fullThenRoom() {
        Script s = full("room in a full house");
        s.due(9, "drop");
        s.refused(Script.OUT, "size", 9, 0);
        Object[][] calls = {{"presheaf", 5}, {"represent", 5, 3}, {"plus", 8}, {"move", 0, 8, 'b'}, {"move", 0, 8, 'l'},
            {"move", 0, 8, 'r'}, {"presheaf", 0}};
        for (Object[] call : calls) {
            s.due(9, (String) call[0], java.util.Arrays.copyOfRange(call, 1, call.length));
            s.refused(Script.STATE, "plus", 0);
            s.due(true, "isPresheaf", 9);
            s.due(9, "drop");
        }
        for (int left = 8; left >= 0; left--) {
            s.due(left, "drop");
        }
        none(s, OF_PRESHEAVES);
        noFigures(s);
        s.due(0, "presheaf", 5);
        s.due(0, "element", 0, 3);
        s.refused(Script.STATE, "category", 1);
        s.refused(Script.STATE, "functor", 0, 0);
    }

    public static void main(String[] args) {
        emptyHouse();
        categoriesAlone();
        leastCategory();
        noElements();
        mapsOfNoElements();
        madeOfNoElements();
        movedNothing();
        emptyCover();
        fullRefuses();
        fullAnswers();
        fullCovers();
        fullThenRoom();
        Script.end("empty and full");
    }
}
