/**
 * All that a house tells: first what it answers without being changed, then what it answers when covers are
 * taken away, functors are told anew and things are added until it refuses. The house is used up by that.
 */
final class Readout {
    private static final int CATEGORIES = 6;
    private static final int OBJECTS = 4;
    private static final int ARROWS = 12;
    private static final int PRESHEAVES = 10;
    private static final int FUNCTORS = 4;
    private static final String[] OF_CATEGORY = {"arrows", "isWhole", "inverses"};
    private static final String[] OF_PRESHEAF = {"isPresheaf", "isSeparated", "isSheaf", "sections", "parts",
        "isBoolean"};

    private final PresheafHouse house;
    private final StringBuilder text = new StringBuilder();

    private Readout(PresheafHouse house) {
        this.house = house;
    }

    static String of(PresheafHouse house) {
        Readout readout = new Readout(house);
        readout.look();
        readout.use();
        return readout.text.toString();
    }

    private Object tell(String name, Object... arguments) {
        Object answer = Twin.ask(house, name, arguments);
        text.append(name).append(java.util.Arrays.toString(arguments)).append(' ').append(answer).append('\n');
        return answer;
    }

    private boolean isThere(String name, int number) {
        return !(Twin.ask(house, name, number) instanceof String);
    }

    private void look() {
        for (String name : new String[] {"sheafShare", "meanElements", "checksum", "isSound"}) {
            tell(name);
        }
        for (int category = 0; category < CATEGORIES && isThere("arrows", category); category++) {
            lookAtCategory(category);
        }
        for (int presheaf = 0; presheaf < PRESHEAVES && isThere("isPresheaf", presheaf); presheaf++) {
            lookAtPresheaf(presheaf);
        }
        for (int functor = 0; functor < FUNCTORS && isThere("isFunctor", functor); functor++) {
            tell("isFunctor", functor);
        }
    }

    private void lookAtCategory(int category) {
        for (String name : OF_CATEGORY) {
            tell(name, category);
        }
        int arrows = (int) Twin.ask(house, "arrows", category);
        for (int second = 0; second < arrows; second++) {
            for (int first = 0; first < arrows; first++) {
                tell("composite", category, second, first);
            }
        }
        for (int object = 0; object < OBJECTS; object++) {
            tell("sieves", category, object);
            tell("leastCover", category, object);
        }
    }

    private void lookAtPresheaf(int presheaf) {
        for (String name : OF_PRESHEAF) {
            tell(name, presheaf);
        }
        for (int object = 0; object < OBJECTS; object++) {
            tell("size", presheaf, object);
        }
        for (int arrow = 0; arrow < ARROWS; arrow++) {
            boolean there = true;
            for (int element = 0; there; element++) {
                there = !"throws.IndexOutOfBoundsException".equals(tell("image", presheaf, arrow, element));
            }
        }
    }

    private void use() {
        for (int functor = 0; functor < FUNCTORS && isThere("isFunctor", functor); functor++) {
            for (int object = 0; object < OBJECTS; object++) {
                tell("sendObject", functor, object, 0);
            }
            for (int arrow = 0; arrow < ARROWS; arrow++) {
                tell("sendArrow", functor, arrow, 0);
            }
        }
        for (int category = 0; category < CATEGORIES && isThere("arrows", category); category++) {
            tell("uncover", category);
            for (int object = 0; object < OBJECTS; object++) {
                tell("leastCover", category, object);
            }
            tell("arrow", category, 0, 0);
        }
        for (int i = 0; i <= CATEGORIES; i++) {
            tell("category", 1);
        }
        for (int category = 0; category < CATEGORIES; category++) {
            tell("functor", category, category);
            addPresheaf(category);
        }
        for (int i = 0; i <= PRESHEAVES; i++) {
            tell("drop");
        }
    }

    /** Nothing is told of a new one, whatever was tried before it. */
    private void addPresheaf(int category) {
        Object presheaf = tell("presheaf", category);
        for (int object = 0; object < OBJECTS && presheaf instanceof Integer; object++) {
            tell("element", presheaf, object);
        }
        for (int arrow = 0; arrow < ARROWS && presheaf instanceof Integer; arrow++) {
            tell("image", presheaf, arrow, 0);
        }
    }
}
