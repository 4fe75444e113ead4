import java.util.ArrayList;
import java.util.List;

/**
 * A run of calls on a new house, each with the answer that is due; the slow house must give it, too, and a
 * call that is refused must leave all as it was.
 */
final class Script {
    static final String OUT = "throws.IndexOutOfBoundsException";
    static final String ILLEGAL = "throws.IllegalArgumentException";
    static final String UNSUPPORTED = "throws.UnsupportedOperationException";
    static final String STATE = "throws.IllegalStateException";
    static final String NONE = "throws.NoSuchElementException";
    static final String ARITHMETIC = "throws.ArithmeticException";

    private static final List<String> WRONG = new ArrayList<>();
    private static int checks = 0;

    private final String title;
    private final Twin twin = new Twin();
    /** The calls that were answered: a name, then the arguments. */
    private final List<Object[]> kept = new ArrayList<>();
    /** What a house tells after these calls; null until it is asked for. */
    private String before = null;

    Script(String title) {
        this.title = title;
    }

    /** Makes a call and tells if the answer, or the exception's name behind throws., is not the due one. */
    void due(Object want, String name, Object... arguments) {
        checks++;
        Object slow = ask(name, arguments);
        String call = title + ": " + name + java.util.Arrays.toString(arguments);
        if (!want.equals(slow)) {
            WRONG.add(call + ": the slow house answered " + slow + ", due is " + want);
        }
    }

    private Object ask(String name, Object... arguments) {
        Object answer = twin.call(name, arguments);
        if (twin.difference != null) {
            WRONG.add(title + ": " + twin.difference);
            twin.difference = null;
        }
        if (answer instanceof String) {
            mustKeepAll(name, arguments);
        } else {
            Object[] call = new Object[arguments.length + 1];
            call[0] = name;
            System.arraycopy(arguments, 0, call, 1, arguments.length);
            kept.add(call);
            before = null;
        }
        return answer;
    }

    /** A house that is used up tells what a refused call left, so there is a new one for each. */
    private void mustKeepAll(String name, Object... arguments) {
        if (before == null) {
            before = Readout.of(again());
        }
        PresheafHouse house = again();
        Twin.ask(house, name, arguments);
        if (!before.equals(Readout.of(house))) {
            WRONG.add(title + ": " + name + java.util.Arrays.toString(arguments) + " was refused and changed something");
        }
    }

    private PresheafHouse again() {
        PresheafHouse house = new PresheafHouse();
        for (Object[] call : kept) {
            Twin.ask(house, (String) call[0], java.util.Arrays.copyOfRange(call, 1, call.length));
        }
        return house;
    }

    void refused(String exception, String name, Object... arguments) {
        due(exception, name, arguments);
    }

    /** A call that is not refused by that exception, whatever else comes of it. */
    void taken(String exception, String name, Object... arguments) {
        checks++;
        if (exception.equals(ask(name, arguments))) {
            WRONG.add(title + ": " + name + java.util.Arrays.toString(arguments) + " was refused");
        }
    }

    static void expect(boolean right, String what) {
        checks++;
        if (!right) {
            WRONG.add("it is not so that " + what);
        }
    }

    /** A call that is refused by none. */
    void answered(String name, Object... arguments) {
        checks++;
        Object answer = ask(name, arguments);
        if (answer instanceof String) {
            WRONG.add(title + ": " + name + java.util.Arrays.toString(arguments) + " answered " + answer);
        }
    }

    void known(boolean is, String exception, String name, Object... arguments) {
        if (is) {
            taken(exception, name, arguments);
        } else {
            refused(exception, name, arguments);
        }
    }

    /** A call whose answer does not matter to the test but to the slow house. */
    int call(String name, Object... arguments) {
        Object answer = ask(name, arguments);
        return answer instanceof Integer ? (Integer) answer : -1;
    }

    // ---- small worlds

    /** 0 -> 1 by the arrow 2. */
    int arrow() {
        int category = call("category", 2);
        call("arrow", category, 0, 1);
        return category;
    }

    /** 0 -> 1 -> 2 by the arrows 3 and 4, with their composite 5. */
    int chain() {
        int category = call("category", 3);
        call("arrow", category, 0, 1);
        call("arrow", category, 1, 2);
        call("arrow", category, 0, 2);
        call("compose", category, 4, 3, 5);
        return category;
    }

    /** Some arrows from 0 to 1, by the numbers from 2 on. */
    int parallel(int arrows) {
        int category = call("category", 2);
        for (int i = 0; i < arrows; i++) {
            call("arrow", category, 0, 1);
        }
        return category;
    }

    /** One object; the rows tell second behind first for all arrows but the identity. */
    int monoid(int[]... rows) {
        int category = call("category", 1);
        for (int i = 0; i < rows.length; i++) {
            call("arrow", category, 0, 0);
        }
        for (int second = 1; second <= rows.length; second++) {
            for (int first = 1; first <= rows.length; first++) {
                call("compose", category, second, first, rows[second - 1][first - 1]);
            }
        }
        return category;
    }

    /** One object; each arrow but the identity is what comes of it behind anything: second behind first is second. */
    int constants(int arrows) {
        int[][] rows = new int[arrows][arrows];
        for (int second = 0; second < arrows; second++) {
            for (int first = 0; first < arrows; first++) {
                rows[second][first] = second + 1;
            }
        }
        return monoid(rows);
    }

    /** One object; the arrow i is that much of one thing, and what would be more than the last one is the last one. */
    int amounts(int last) {
        int[][] rows = new int[last][last];
        for (int second = 0; second < last; second++) {
            for (int first = 0; first < last; first++) {
                rows[second][first] = Math.min(second + first + 2, last);
            }
        }
        return monoid(rows);
    }

    /** The group of two. */
    int swap() {
        return monoid(new int[] {0});
    }

    /** The group of three. */
    int turn() {
        return monoid(new int[] {2, 0}, new int[] {0, 1});
    }

    /** The idempotent: 1 behind 1 is 1. */
    int idempotent() {
        return monoid(new int[] {1});
    }

    /** A presheaf with as many elements at each object and nothing told. */
    int sets(int category, int... sizes) {
        int presheaf = call("presheaf", category);
        for (int object = 0; object < sizes.length; object++) {
            for (int i = 0; i < sizes[object]; i++) {
                call("element", presheaf, object);
            }
        }
        return presheaf;
    }

    /** Tells the action of an arrow on all elements. */
    void acts(int presheaf, int arrow, int... images) {
        for (int element = 0; element < images.length; element++) {
            call("act", presheaf, arrow, element, images[element]);
        }
    }

    /** Asks where the action of an arrow takes all elements. */
    void actsAs(int presheaf, int arrow, int... images) {
        for (int element = 0; element < images.length; element++) {
            due(images[element], "image", presheaf, arrow, element);
        }
        refused(OUT, "image", presheaf, arrow, images.length);
    }

    void sizesAre(int presheaf, int... sizes) {
        for (int object = 0; object < sizes.length; object++) {
            due(sizes[object], "size", presheaf, object);
        }
        due(true, "isPresheaf", presheaf);
    }

    static void end(String test) {
        for (String line : WRONG) {
            System.out.println(line);
        }
        System.out.println(test + ": " + checks + " answers asked for, " + WRONG.size() + " not as due");
        if (!WRONG.isEmpty()) {
            System.exit(1);
        }
    }
}
