import java.util.ArrayList;
import java.util.Arrays;
import java.util.List;

/**
 * Of each call: all that can be wrong with its arguments and with the house, alone and together. Where several
 * exceptions apply, the one that is documented first is thrown, and nothing is changed.
 */
public final class FirstNamedTest {
    private static final String OUT = Script.OUT;
    private static final String ILLEGAL = Script.ILLEGAL;
    private static final String UNSUPPORTED = Script.UNSUPPORTED;
    private static final String STATE = Script.STATE;
    private static final String NONE = Script.NONE;
    private static final char[] NO_KINDS = {'y', 'X', ' ', (char) 0};

    private FirstNamedTest() {
    }

    /** Values of one or some arguments, and what applies to them. */
    private record Choice(Object[] values, List<String> wrong) {
    }

    private static Choice[] some(Choice... choices) {
        return choices;
    }

    private static Choice fits(Object... values) {
        return new Choice(values, List.of());
    }

    private static Choice bad(String exception, Object... values) {
        return new Choice(values, List.of(exception));
    }

    private static Choice[] with(Choice[] choices, Choice... more) {
        Choice[] all = Arrays.copyOf(choices, choices.length + more.length);
        System.arraycopy(more, 0, all, choices.length, more.length);
        return all;
    }

    /** Numbers that there are, then those next to them and the outermost ones. */
    private static Choice[] upTo(String exception, int greatest, Integer... good) {
        List<Choice> choices = new ArrayList<>();
        for (int value : good) {
            choices.add(fits(value));
        }
        for (int value : new int[] {-1, greatest + 1, Integer.MIN_VALUE, Integer.MAX_VALUE}) {
            choices.add(bad(exception, value));
        }
        return choices.toArray(new Choice[0]);
    }

    private interface World {
        Script made(String title);
    }

    /**
     * The categories 0, an arrow, 1, a point, 2, two points and an arrow with a composite that was not told, 3, five
     * arrows side by side, and 4, two points below one that both cover. The presheaves 0 of the first, 1 of the first
     * one and not whole, 2 of the point, 3 of the first with 4 elements everywhere, 4 of the last one, and 5 of the
     * point, with two. The functors 0 from the arrow to the point, and 1, the same, but not told.
     */
    private static Script open(String title) {
        Script s = new Script(title);
        s.arrow();
        s.call("category", 1);
        s.call("category", 2);
        s.call("arrow", 2, 0, 0);
        s.parallel(5);
        s.call("category", 3);
        s.call("arrow", 4, 0, 2);
        s.call("arrow", 4, 1, 2);
        s.call("cover", 4, 2, 24);
        s.sets(0, 1, 1);
        s.acts(0, 2, 0);
        s.sets(0, 1, 1);
        s.sets(1, 1);
        s.sets(0, 4, 4);
        s.acts(3, 2, 0, 1, 2, 3);
        s.sets(4, 3, 2, 0);
        s.sets(1, 2);
        s.call("functor", 0, 1);
        s.call("sendObject", 0, 0, 0);
        s.call("sendObject", 0, 1, 0);
        s.call("sendArrow", 0, 2, 0);
        s.call("functor", 0, 1);
        return s;
    }

    private static Script full(String title) {
        Script s = open(title);
        s.call("category", 1);
        for (int i = 6; i < 10; i++) {
            s.sets(1, 1);
        }
        s.call("functor", 1, 1);
        s.call("functor", 1, 1);
        return s;
    }

    /** The functors 2 and 3 go from the point to where five arrows begin and end: too many pairs, or maps. */
    private static Script moving(String title) {
        Script s = open(title);
        s.call("functor", 1, 3);
        s.call("sendObject", 2, 0, 0);
        s.call("functor", 1, 3);
        s.call("sendObject", 3, 0, 1);
        return s;
    }

    private static Script movingFull(String title) {
        Script s = moving(title);
        for (int i = 6; i < 10; i++) {
            s.sets(1, 1);
        }
        return s;
    }

    /** Goes through all choices together; the last one's exception is that of the house, if it is full. */
    private static void check(World world, boolean isFull, List<String> order, String name, Choice[]... groups) {
        Script s = world.made("first named of " + name);
        int[] at = new int[groups.length];
        boolean more = true;
        while (more) {
            List<Object> arguments = new ArrayList<>();
            List<String> wrong = new ArrayList<>();
            if (isFull && order.contains(STATE)) {
                wrong.add(STATE);
            }
            for (int i = 0; i < groups.length; i++) {
                arguments.addAll(Arrays.asList(groups[i][at[i]].values));
                wrong.addAll(groups[i][at[i]].wrong);
            }
            checkOne(world, s, order, wrong, name, arguments.toArray());
            more = false;
            for (int i = groups.length - 1; i >= 0 && !more; i--) {
                at[i] = (at[i] + 1) % groups[i].length;
                more = at[i] > 0;
            }
        }
    }

    private static void checkOne(World world, Script s, List<String> order, List<String> wrong, String name,
            Object... arguments) {
        for (String exception : order) {
            if (wrong.contains(exception)) {
                s.refused(exception, name, arguments);
                return;
            }
        }
        world.made(name + " where nothing is wrong").answered(name, arguments);
    }

    private static void checkBoth(List<String> order, String name, Choice[]... groups) {
        check(FirstNamedTest::open, false, order, name, groups);
        check(FirstNamedTest::full, true, order, name, groups);
    }

    // ---- what there is to choose from

    private static Choice[] anyCategory(boolean full) {
        return upTo(OUT, full ? 5 : 4, 0, 3);
    }

    private static Choice[] wholeCategory(boolean full) {
        return with(anyCategory(full), bad(UNSUPPORTED, 2));
    }

    private static Choice[] anyPresheaf(boolean full) {
        return upTo(OUT, full ? 9 : 5, 0, 2);
    }

    private static Choice[] wholePresheaf(boolean full) {
        return with(anyPresheaf(full), bad(UNSUPPORTED, 1));
    }

    /** Two whole presheaves of a category; what is wrong with one of them, and with both. */
    private static Choice[] alikePresheaves(boolean full) {
        int beyond = full ? 10 : 6;
        return some(fits(0, 0), fits(2, 5), bad(OUT, beyond, 0), bad(OUT, 0, beyond), bad(OUT, -1, 1), bad(OUT, 1, -1),
            bad(OUT, beyond, beyond), bad(OUT, 2, beyond), bad(OUT, -1, 2), bad(UNSUPPORTED, 1, 0),
            bad(UNSUPPORTED, 0, 1), bad(UNSUPPORTED, 1, 1), bad(UNSUPPORTED, 2, 0), bad(UNSUPPORTED, 0, 2),
            bad(UNSUPPORTED, 1, 2), bad(UNSUPPORTED, 2, 1), bad(UNSUPPORTED, 2, 4));
    }

    private static Choice[] kinds(String there) {
        List<Choice> choices = new ArrayList<>();
        for (char kind : there.toCharArray()) {
            choices.add(fits(kind));
        }
        for (char kind : NO_KINDS) {
            choices.add(bad(ILLEGAL, kind));
        }
        return choices.toArray(new Choice[0]);
    }

    // ---- the calls

    private static void categories() {
        checkBoth(List.of(ILLEGAL, STATE), "category", upTo(ILLEGAL, 4, 1, 4));
        arrows();
        composites();
        for (boolean full : new boolean[] {false, true}) {
            World world = full ? FirstNamedTest::full : FirstNamedTest::open;
            List<String> order = List.of(OUT, UNSUPPORTED, STATE);
            check(world, full, order, "opposite", wholeCategory(full));
            int beyond = full ? 6 : 5;
            Choice[] both = some(fits(0, 0), fits(0, 1), fits(1, 3), bad(OUT, beyond, 0), bad(OUT, 0, beyond),
                bad(OUT, -1, 2), bad(OUT, 2, -1), bad(OUT, beyond, 3), bad(OUT, 3, beyond), bad(UNSUPPORTED, 2, 0),
                bad(UNSUPPORTED, 0, 2), bad(UNSUPPORTED, 2, 2), bad(UNSUPPORTED, 3, 3), bad(UNSUPPORTED, 0, 3),
                bad(UNSUPPORTED, 4, 0), bad(UNSUPPORTED, 2, 3));
            check(world, full, order, "times", both);
            check(world, full, List.of(OUT, UNSUPPORTED), "inverses", wholeCategory(full));
            check(world, full, List.of(OUT), "arrows", with(anyCategory(full), fits(2)));
            check(world, full, List.of(OUT), "isWhole", with(anyCategory(full), fits(2)));
        }
    }

    /** Loose and fixed, each with room and with 12 arrows. */
    private static Script loose(String title) {
        Script s = new Script(title);
        s.call("category", 2);
        s.arrow();
        s.call("presheaf", 1);
        s.parallel(10);
        s.parallel(10);
        s.call("presheaf", 3);
        return s;
    }

    private static void arrows() {
        Choice[] category = with(upTo(OUT, 3, 0), bad(UNSUPPORTED, 1), bad(STATE, 2),
            new Choice(new Object[] {3}, List.of(UNSUPPORTED, STATE)));
        check(FirstNamedTest::loose, false, List.of(OUT, UNSUPPORTED, STATE), "arrow", category, upTo(OUT, 1, 0, 1),
            upTo(OUT, 1, 0, 1));
    }

    /** The chain 0 has no composite told, 1 has one and is fixed. */
    private static Script chains(String title) {
        Script s = new Script(title);
        s.call("category", 3);
        s.call("arrow", 0, 0, 1);
        s.call("arrow", 0, 1, 2);
        s.call("arrow", 0, 0, 2);
        s.chain();
        s.call("presheaf", 1);
        return s;
    }

    private static void composites() {
        Choice[] category = with(upTo(OUT, 1, 0), bad(UNSUPPORTED, 1));
        Choice[] second = with(upTo(OUT, 5, 4), bad(UNSUPPORTED, 0), bad(UNSUPPORTED, 1), bad(UNSUPPORTED, 3));
        Choice[] first = with(upTo(OUT, 5, 3), bad(UNSUPPORTED, 0), bad(UNSUPPORTED, 1), bad(UNSUPPORTED, 4));
        check(FirstNamedTest::chains, false, List.of(OUT, UNSUPPORTED), "compose", category, second, first,
            upTo(OUT, 5, 0, 5));
        List<String> order = List.of(OUT, UNSUPPORTED, NONE);
        Choice[] untold = upTo(OUT, 1, 0);
        untold[0] = bad(NONE, 0);
        Choice[] none = with(upTo(OUT, 5, 4), bad(UNSUPPORTED, 0), bad(UNSUPPORTED, 3), bad(UNSUPPORTED, 5));
        Choice[] before = with(upTo(OUT, 5, 3), bad(UNSUPPORTED, 2), bad(UNSUPPORTED, 4), bad(UNSUPPORTED, 5));
        check(FirstNamedTest::chains, false, order, "composite", untold, none, before);
        check(FirstNamedTest::chains, false, order, "composite", upTo(OUT, 1, 1), none, before);
    }

    private static void presheaves(boolean full) {
        World world = full ? FirstNamedTest::full : FirstNamedTest::open;
        List<String> order = List.of(OUT, UNSUPPORTED, STATE);
        check(world, full, order, "presheaf", wholeCategory(full));
        check(world, full, order, "truth", with(upTo(OUT, full ? 5 : 4, 0, 1), bad(UNSUPPORTED, 2), bad(UNSUPPORTED, 3)));
        Choice[] arrows = with(upTo(OUT, full ? 5 : 4, 0), bad(UNSUPPORTED, 2), bad(UNSUPPORTED, 3));
        check(world, full, order, "represent", arrows, upTo(OUT, 1, 1));
        Choice[] element = with(upTo(OUT, full ? 9 : 5, 0, 1), bad(STATE, 3));
        check(world, false, List.of(OUT, STATE), "element", element, upTo(OUT, 1, 0, 1));
        check(world, full, List.of(OUT), "size", with(upTo(OUT, full ? 9 : 5, 0, 1, 3)), upTo(OUT, 1, 0, 1));
        Choice[] action = with(upTo(OUT, 2, 2), bad(UNSUPPORTED, 0), bad(UNSUPPORTED, 1));
        check(world, full, List.of(OUT, UNSUPPORTED), "act", upTo(OUT, full ? 9 : 5, 0, 1), action, upTo(OUT, 0, 0),
            upTo(OUT, 0, 0));
        Choice[] told = with(upTo(OUT, full ? 9 : 5, 0), bad(NONE, 1));
        check(world, full, List.of(OUT, NONE), "image", told, upTo(OUT, 2, 2), upTo(OUT, 0, 0));
        check(world, full, List.of(OUT), "isPresheaf", with(anyPresheaf(full), fits(1)));
        check(world, full, List.of(OUT, UNSUPPORTED), "sections", wholePresheaf(full));
        combined(world, full);
        mapped(world, full);
    }

    private static void combined(World world, boolean full) {
        Choice[] both = with(alikePresheaves(full), bad(UNSUPPORTED, 3, 3));
        check(world, full, List.of(OUT, ILLEGAL, UNSUPPORTED, STATE), "combine", both, kinds("x+^"));
    }

    private static void mapped(World world, boolean full) {
        List<String> order = List.of(OUT, UNSUPPORTED);
        check(world, full, order, "maps", alikePresheaves(full));
        check(world, full, order, "areAlike", alikePresheaves(full));
        order = List.of(OUT, UNSUPPORTED, NONE);
        Choice[] index = some(fits(0), bad(NONE, -1), bad(NONE, 2), bad(NONE, 5000), bad(NONE, Integer.MIN_VALUE),
            bad(NONE, Integer.MAX_VALUE));
        // Each of the presheaves that are first has a place 0, and none a place 8.
        check(world, full, order, "mapped", alikePresheaves(full), index, upTo(OUT, 7, 0));
        // A place that is not there counts more than that a presheaf is not whole, and that there are too many maps.
        Script s = world.made("a place of what is not whole");
        s.refused(OUT, "mapped", 1, 0, 0, 2);
        s.refused(UNSUPPORTED, "mapped", 1, 0, 0, 1);
        s.refused(OUT, "mapped", 2, 0, 9, 1);
        s.refused(UNSUPPORTED, "mapped", 2, 0, 9, 0);
    }

    private static Script many(String title) {
        Script s = new Script(title);
        s.call("category", 2);
        s.sets(0, 4, 4);
        return s;
    }

    private static void tooMany() {
        Choice[] both = some(bad(UNSUPPORTED, 0, 0), bad(OUT, 0, 1), bad(OUT, 1, 0));
        check(FirstNamedTest::many, false, List.of(OUT, UNSUPPORTED), "maps", both);
        check(FirstNamedTest::many, false, List.of(OUT, UNSUPPORTED), "areAlike", both);
        check(FirstNamedTest::many, false, List.of(OUT, UNSUPPORTED, NONE), "mapped", both,
            some(fits(0), bad(NONE, -1), bad(NONE, 65536)), upTo(OUT, 7, 0, 7));
    }

    private static void parts(boolean full) {
        World world = full ? FirstNamedTest::full : FirstNamedTest::open;
        List<String> order = List.of(OUT, UNSUPPORTED, ILLEGAL);
        check(world, full, List.of(OUT, UNSUPPORTED), "parts", wholePresheaf(full));
        check(world, full, List.of(OUT, UNSUPPORTED), "isBoolean", wholePresheaf(full));
        Choice[] arrowed = with(upTo(OUT, full ? 9 : 5, 0), bad(UNSUPPORTED, 1));
        Choice[] part = with(upTo(ILLEGAL, 3, 0, 1, 3), bad(ILLEGAL, 2));
        check(world, full, order, "join", arrowed, part, part, kinds("&|>"));
        check(world, full, order, "least", arrowed, upTo(ILLEGAL, 3, 0, 1, 2, 3));
        check(world, full, order, "truthOf", arrowed, part, upTo(OUT, 1, 0, 1));
    }

    private static void covers(boolean full) {
        World world = full ? FirstNamedTest::full : FirstNamedTest::open;
        List<String> order = List.of(OUT, UNSUPPORTED);
        check(world, full, order, "sieves", wholeCategory(full), upTo(OUT, 1, 0, 1));
        check(world, full, order, "leastCover", wholeCategory(full), upTo(OUT, 1, 0, 1));
        Choice[] sieve = some(fits(0), fits(4), fits(6), bad(ILLEGAL, 2), bad(ILLEGAL, 1), bad(ILLEGAL, -1),
            bad(ILLEGAL, 7), bad(ILLEGAL, 8), bad(ILLEGAL, Integer.MIN_VALUE), bad(ILLEGAL, Integer.MAX_VALUE));
        Choice[] category = with(upTo(OUT, full ? 5 : 4, 0), bad(UNSUPPORTED, 2));
        for (String name : new String[] {"cover", "covers"}) {
            check(world, full, List.of(OUT, UNSUPPORTED, ILLEGAL), name, category, upTo(OUT, 1, 1), sieve);
        }
        check(world, full, List.of(OUT), "uncover", with(anyCategory(full), fits(2)));
        check(world, full, order, "isSeparated", wholePresheaf(full));
        check(world, full, order, "isSheaf", wholePresheaf(full));
        check(world, full, List.of(OUT, UNSUPPORTED, STATE), "plus", with(wholePresheaf(full), bad(UNSUPPORTED, 4)));
    }

    private static void functors(boolean full) {
        World world = full ? FirstNamedTest::full : FirstNamedTest::open;
        int beyond = full ? 6 : 5;
        Choice[] both = some(fits(0, 0), fits(1, 3), bad(OUT, beyond, 0), bad(OUT, 0, beyond), bad(OUT, -1, 2),
            bad(OUT, 2, beyond), bad(UNSUPPORTED, 2, 0), bad(UNSUPPORTED, 0, 2), bad(UNSUPPORTED, 2, 2));
        check(world, full, List.of(OUT, UNSUPPORTED, STATE), "functor", both);
        Choice[] functor = upTo(OUT, full ? 3 : 1, 0, 1);
        check(world, full, List.of(OUT), "sendObject", functor, upTo(OUT, 1, 0, 1), upTo(OUT, 0, 0));
        Choice[] arrow = with(upTo(OUT, 2, 2), bad(UNSUPPORTED, 0), bad(UNSUPPORTED, 1));
        check(world, full, List.of(OUT, UNSUPPORTED), "sendArrow", functor, arrow, upTo(OUT, 0, 0));
        check(world, full, List.of(OUT), "isFunctor", functor);
        World moves = full ? FirstNamedTest::movingFull : FirstNamedTest::moving;
        moved(moves, full);
    }

    private static void moved(World world, boolean full) {
        List<String> order = List.of(OUT, ILLEGAL, UNSUPPORTED, STATE);
        int beyond = full ? 10 : 6;
        Choice[] missing = some(bad(OUT, -1, 0), bad(OUT, 4, 0), bad(OUT, 0, -1), bad(OUT, 0, beyond), bad(OUT, 1, beyond),
            bad(OUT, 4, 1), bad(OUT, 4, beyond));
        Choice[] never = with(missing, bad(UNSUPPORTED, 0, 1), bad(UNSUPPORTED, 1, 0), bad(UNSUPPORTED, 1, 1),
            bad(UNSUPPORTED, 1, 2), bad(UNSUPPORTED, 0, 4), bad(UNSUPPORTED, 2, 4));
        Choice[] back = with(never, fits(0, 2), bad(UNSUPPORTED, 0, 0), bad(UNSUPPORTED, 2, 2));
        check(world, full, order, "move", back, some(fits('b')));
        Choice[] left = with(never, fits(0, 0), fits(2, 2), bad(UNSUPPORTED, 0, 2), bad(UNSUPPORTED, 3, 2));
        check(world, full, order, "move", left, some(fits('l')));
        Choice[] right = with(never, fits(0, 0), fits(2, 2), bad(UNSUPPORTED, 0, 2), bad(UNSUPPORTED, 2, 5));
        check(world, full, order, "move", right, some(fits('r')));
        check(world, full, order, "move", with(never, fits(0, 0), fits(0, 2), bad(UNSUPPORTED, 2, 5)), kindsAlone());
    }

    private static Choice[] kindsAlone() {
        List<Choice> choices = new ArrayList<>();
        for (char kind : NO_KINDS) {
            choices.add(bad(ILLEGAL, kind));
        }
        return choices.toArray(new Choice[0]);
    }

    public static void main(String[] args) {
        categories();
        tooMany();
        for (boolean full : new boolean[] {false, true}) {
            presheaves(full);
            parts(full);
            covers(full);
            functors(full);
        }
        Script.end("first named");
    }
}
