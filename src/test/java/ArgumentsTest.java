/** Of each argument of each call: the least and the greatest that there are, and one too small and one too large. */
public final class ArgumentsTest {
    private static final int LOW = Integer.MIN_VALUE;
    private static final int HIGH = Integer.MAX_VALUE;

    private ArgumentsTest() {
    }

    /**
     * The categories 0, an arrow, 1, a chain, and 2, a chain of four objects that is not fixed; the presheaves
     * 0 and 1 of the first and 2 of the second one; the functors 0, from the first to the second one, and 1,
     * from the second one to the first one.
     */
    private static Script world(String title) {
        Script s = new Script(title);
        s.arrow();
        s.chain();
        s.call("category", 4);
        s.call("arrow", 2, 0, 1);
        s.call("arrow", 2, 1, 2);
        s.call("arrow", 2, 0, 2);
        s.call("compose", 2, 5, 4, 6);
        s.sets(0, 2, 3);
        s.acts(0, 2, 0, 1, 1);
        s.sets(0, 1, 2);
        s.acts(1, 2, 0, 0);
        s.sets(1, 1, 2, 3);
        s.acts(2, 3, 0, 0);
        s.acts(2, 4, 0, 1, 1);
        s.acts(2, 5, 0, 0, 0);
        s.call("functor", 0, 1);
        s.call("sendObject", 0, 0, 0);
        s.call("sendObject", 0, 1, 2);
        s.call("sendArrow", 0, 2, 5);
        s.call("functor", 1, 0);
        for (int object = 0; object < 3; object++) {
            s.call("sendObject", 1, object, 0);
            s.call("sendArrow", 1, 3 + object, 0);
        }
        return s;
    }

    private static Object[] with(Object[] arguments, int place, int value) {
        Object[] changed = arguments.clone();
        changed[place] = value;
        return changed;
    }

    /** An argument from the least one to the greatest one is not refused so, and any other one is. */
    private static void range(String exception, String name, int place, int least, int greatest, Object... arguments) {
        String title = "argument " + place + " of " + name;
        Script s = world(title);
        for (int wrong : new int[] {least - 1, greatest + 1, LOW, LOW + 1, HIGH, HIGH - 1}) {
            s.refused(exception, name, with(arguments, place, wrong));
        }
        for (int right = least; right <= greatest; right += right == least + 12 ? greatest - right : 1) {
            world(title).taken(exception, name, with(arguments, place, right));
        }
    }

    private static void outOf(String name, int place, int greatest, Object... arguments) {
        range(Script.OUT, name, place, 0, greatest, arguments);
    }

    private static void categories() {
        range(Script.ILLEGAL, "category", 0, 1, 4, 1);
        outOf("arrow", 0, 2, 0, 0, 0);
        outOf("arrow", 1, 3, 2, 0, 0);
        outOf("arrow", 2, 3, 2, 0, 0);
        outOf("arrow", 1, 1, 0, 0, 0);
        outOf("arrow", 2, 2, 1, 0, 0);
        outOf("compose", 0, 2, 0, 0, 0, 0);
        for (int place = 1; place < 4; place++) {
            outOf("compose", place, 6, 2, 5, 4, 6);
            outOf("compose", place, 2, 0, 2, 2, 2);
        }
        outOf("arrows", 0, 2, 0);
        outOf("composite", 0, 2, 0, 0, 0);
        outOf("composite", 1, 6, 2, 5, 4);
        outOf("composite", 2, 6, 2, 5, 4);
        outOf("composite", 1, 2, 0, 2, 0);
        outOf("composite", 2, 2, 0, 2, 0);
        for (String name : new String[] {"isWhole", "opposite", "inverses", "presheaf", "truth", "uncover"}) {
            outOf(name, 0, 2, 0);
        }
        outOf("times", 0, 2, 0, 0);
        outOf("times", 1, 2, 0, 0);
        outOf("functor", 0, 2, 0, 0);
        outOf("functor", 1, 2, 0, 0);
    }

    private static void sieves() {
        for (String name : new String[] {"represent", "sieves", "leastCover"}) {
            outOf(name, 0, 2, 0, 0);
            outOf(name, 1, 1, 0, 0);
            outOf(name, 1, 2, 1, 0);
            outOf(name, 1, 3, 2, 0);
        }
        for (String name : new String[] {"cover", "covers"}) {
            outOf(name, 0, 2, 0, 0, 0);
            outOf(name, 1, 1, 0, 0, 0);
            outOf(name, 1, 2, 1, 0, 0);
            outOf(name, 1, 3, 2, 0, 0);
            // The sieves of 1 in an arrow are 0, 4 and 6, those of 0 are 0 and 1.
            range(Script.ILLEGAL, name, 2, 0, 1, 0, 0, 0);
            Script s = world(name + " of what is no sieve");
            for (int wrong : new int[] {-1, 1, 2, 3, 5, 7, 8, 4 + 8, 4096, 4096 + 4, 65536 + 4, LOW, LOW + 4, HIGH}) {
                s.refused(Script.ILLEGAL, name, 0, 1, wrong);
            }
            for (int right : new int[] {0, 4, 6}) {
                world(name + " of a sieve").taken(Script.ILLEGAL, name, 0, 1, right);
            }
        }
    }

    private static void presheaves() {
        for (String name : new String[] {"isPresheaf", "sections", "parts", "isBoolean", "isSeparated", "isSheaf",
            "plus"}) {
            outOf(name, 0, 2, 0);
        }
        for (String name : new String[] {"element", "size"}) {
            outOf(name, 0, 2, 0, 0);
            outOf(name, 1, 1, 0, 0);
            outOf(name, 1, 2, 2, 0);
        }
        outOf("act", 0, 2, 0, 0, 0, 0);
        outOf("act", 1, 5, 2, 3, 0, 0);
        outOf("act", 1, 2, 0, 2, 0, 0);
        outOf("act", 2, 2, 2, 5, 0, 0);
        outOf("act", 2, 1, 2, 3, 0, 0);
        outOf("act", 3, 1, 2, 4, 0, 0);
        outOf("act", 3, 0, 2, 5, 0, 0);
        outOf("image", 0, 2, 0, 0, 0);
        outOf("image", 1, 5, 2, 3, 0);
        outOf("image", 1, 2, 0, 2, 0);
        outOf("image", 2, 2, 2, 5, 0);
        outOf("image", 2, 1, 2, 3, 0);
        outOf("image", 2, 0, 2, 0, 0);
        for (String name : new String[] {"maps", "areAlike"}) {
            outOf(name, 0, 2, 0, 0);
            outOf(name, 1, 2, 0, 0);
        }
        for (char kind : new char[] {'x', '+', '^'}) {
            outOf("combine", 0, 2, 0, 0, kind);
            outOf("combine", 1, 2, 0, 0, kind);
        }
    }

    /** Over the one element of 1 at 0 both of 1 go as one likes to one of 0's: 1 and 4 maps. */
    private static void mapped() {
        outOf("mapped", 0, 2, 0, 0, 0, 0);
        outOf("mapped", 1, 2, 0, 0, 0, 0);
        world("how many maps").due(5, "maps", 1, 0);
        range(Script.NONE, "mapped", 2, 0, 4, 1, 0, 0, 0);
        outOf("mapped", 3, 2, 1, 0, 0, 0);
        outOf("mapped", 3, 4, 0, 0, 0, 0);
        outOf("mapped", 3, 5, 2, 2, 0, 0);
    }

    private static void parts() {
        for (char kind : new char[] {'&', '|', '>'}) {
            outOf("join", 0, 2, 0, 0, 0, kind);
            for (int place = 1; place < 3; place++) {
                Script s = world("join with what is no part");
                // Of the places 2, 3 and 4 the first one lies over 0 and both others over 1.
                for (int wrong : new int[] {-1, 4, 8, 16, 2 + 4, 1 + 8, 1 + 16, 24, 28, 30, 32, 31 + 32, 32 + 1,
                    65536, LOW, LOW + 1, HIGH}) {
                    s.refused(Script.ILLEGAL, "join", with(new Object[] {0, 1, 1, kind}, place, wrong));
                }
                for (int right : new int[] {0, 1, 2, 3, 5, 7, 10, 11, 15, 18, 19, 23, 26, 27, 31}) {
                    s.taken(Script.ILLEGAL, "join", with(new Object[] {0, 1, 1, kind}, place, right));
                }
            }
        }
        outOf("least", 0, 2, 0, 0);
        range(Script.ILLEGAL, "least", 1, 0, 31, 0, 0);
        range(Script.ILLEGAL, "least", 1, 0, 7, 1, 0);
        range(Script.ILLEGAL, "least", 1, 0, 63, 2, 0);
        outOf("truthOf", 0, 2, 0, 0, 0);
        outOf("truthOf", 2, 4, 0, 0, 0);
        outOf("truthOf", 2, 2, 1, 0, 0);
        outOf("truthOf", 2, 5, 2, 0, 0);
        Script s = world("truthOf by what is no part");
        for (int wrong : new int[] {-1, 4, 8, 16, 28, 30, 32, 31 + 32, 65536, LOW, HIGH}) {
            s.refused(Script.ILLEGAL, "truthOf", 0, wrong, 0);
        }
        for (int right : new int[] {0, 1, 2, 3, 5, 31}) {
            s.taken(Script.ILLEGAL, "truthOf", 0, right, 0);
        }
    }

    private static void functors() {
        outOf("sendObject", 0, 1, 0, 0, 0);
        outOf("sendObject", 1, 1, 0, 0, 0);
        outOf("sendObject", 2, 2, 0, 0, 0);
        outOf("sendObject", 1, 2, 1, 0, 0);
        outOf("sendObject", 2, 1, 1, 0, 0);
        outOf("sendArrow", 0, 1, 0, 0, 0);
        outOf("sendArrow", 1, 2, 0, 2, 0);
        outOf("sendArrow", 2, 5, 0, 2, 0);
        outOf("sendArrow", 1, 5, 1, 3, 0);
        outOf("sendArrow", 2, 2, 1, 3, 0);
        outOf("isFunctor", 0, 1, 0);
        for (char way : new char[] {'b', 'l', 'r'}) {
            outOf("move", 0, 1, 0, 0, way);
            outOf("move", 1, 2, 0, 0, way);
        }
    }

    /** All signs that there are: those of the document and no other. */
    private static void kinds() {
        Script s = world("kinds");
        for (int sign = 0; sign < 65536; sign++) {
            char kind = (char) sign;
            if (sign < 300 || sign % 1021 == 0 || sign % 256 == 'x' || sign == 65535) {
                s.known("x+^".indexOf(kind) >= 0, Script.ILLEGAL, "combine", 0, 0, kind);
                s.known("&|>".indexOf(kind) >= 0, Script.ILLEGAL, "join", 0, 0, 0, kind);
                s.known("blr".indexOf(kind) >= 0, Script.ILLEGAL, "move", 0, 0, kind);
            }
        }
    }

    public static void main(String[] args) {
        categories();
        sieves();
        presheaves();
        mapped();
        parts();
        functors();
        kinds();
        Script.end("arguments");
    }
}
