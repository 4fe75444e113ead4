import java.util.Arrays;
import java.util.NoSuchElementException;

/** A house of small categories, of presheaves on them and of functors between them. */
public final class PresheafHouse {
    private static final int CATEGORIES = 6;
    private static final int OBJECTS = 4;
    private static final int ARROWS = 12;
    private static final int PRESHEAVES = 10;
    private static final int ELEMENTS = 4;
    private static final int FUNCTORS = 4;
    private static final int PLACES = OBJECTS * ELEMENTS;
    private static final int PAIRS = 16;
    private static final int MAPS = 5000;
    private static final int ARROW_SETS = 1 << ARROWS;
    private static final int ELEMENT_SETS = 1 << ELEMENTS;
    private static final int KEYS = ARROWS * ELEMENTS;
    private static final int LINKS = PAIRS * ARROWS;
    private static final int WORD = 64;
    private static final int ALL = -1;
    private static final int STEPS = 1 << 26;

    private final Category[] categories = new Category[CATEGORIES];
    // The slot behind the last presheaf is for the next one while it is made, so there is one more than
    // can have numbers.
    private final Presheaf[] presheaves = new Presheaf[PRESHEAVES + 1];
    private final Functor[] functors = new Functor[FUNCTORS];
    private final Order order;
    private final Search search;
    private final Families families;
    private final Powers powers;
    private final Rights rights;
    private final Classes classes;
    private final int[] sieveRows = new int[OBJECTS * ELEMENTS];
    private int categoryCount;
    private int presheafCount;
    private int functorCount;

    public PresheafHouse() {
        for (int i = 0; i < CATEGORIES; i++) {
            categories[i] = new Category();
        }
        for (int i = 0; i <= PRESHEAVES; i++) {
            presheaves[i] = new Presheaf(categories[0]);
        }
        for (int i = 0; i < FUNCTORS; i++) {
            functors[i] = new Functor(categories[0], categories[0]);
        }
        order = new Order();
        search = new Search(presheaves[0]);
        families = new Families(search, categories[0]);
        powers = new Powers(search, presheaves[0]);
        rights = new Rights(search, functors[0]);
        classes = new Classes(functors[0], presheaves[0]);
    }

    // ---- categories

    public int category(int objects) throws IllegalArgumentException, IllegalStateException {
        if (objects < 1 || objects > OBJECTS) {
            throw new IllegalArgumentException("a category has 1 to 4 objects");
        }
        Category made = nextCategory();
        made.start(objects);
        return keepCategory();
    }

    public int arrow(int category, int from, int to)
            throws IndexOutOfBoundsException, UnsupportedOperationException, IllegalStateException {
        Category of = categoryAt(category);
        needObject(of, from);
        needObject(of, to);
        needLoose(of);
        if (of.arrows >= ARROWS) {
            throw new IllegalStateException("there are 12 arrows");
        }
        of.addArrow(from, to);
        return of.arrows - 1;
    }

    public int compose(int category, int second, int first, int composite)
            throws IndexOutOfBoundsException, UnsupportedOperationException {
        Category of = categoryAt(category);
        needArrow(of, second);
        needArrow(of, first);
        needArrow(of, composite);
        needLoose(of);
        if (of.isIdentity(second) || of.isIdentity(first)) {
            throw new UnsupportedOperationException("composites with identities are not told");
        }
        needComposable(of, second, first);
        int before = of.behind(second, first);
        of.tellComposite(second, first, composite);
        return before;
    }

    public int arrows(int category) throws IndexOutOfBoundsException {
        return categoryAt(category).arrows;
    }

    public int composite(int category, int second, int first)
            throws IndexOutOfBoundsException, UnsupportedOperationException, NoSuchElementException {
        Category of = categoryAt(category);
        needArrow(of, second);
        needArrow(of, first);
        needComposable(of, second, first);
        int both = of.behind(second, first);
        if (both < 0) {
            throw new NoSuchElementException("the composite was not told");
        }
        return both;
    }

    public boolean isWhole(int category) throws IndexOutOfBoundsException {
        return categoryAt(category).isComplete();
    }

    public int opposite(int category)
            throws IndexOutOfBoundsException, UnsupportedOperationException, IllegalStateException {
        Category of = categoryAt(category);
        needWhole(of);
        Category made = nextCategory();
        made.startOpposite(of);
        of.fixed = true;
        return keepCategory();
    }

    public int times(int category, int other)
            throws IndexOutOfBoundsException, UnsupportedOperationException, IllegalStateException {
        Category left = categoryAt(category);
        Category right = categoryAt(other);
        needWhole(left);
        needWhole(right);
        if (left.objects * right.objects > OBJECTS || left.arrows * right.arrows > ARROWS) {
            throw new UnsupportedOperationException("the product would be too big");
        }
        Category made = nextCategory();
        made.startProduct(left, right);
        left.fixed = true;
        right.fixed = true;
        return keepCategory();
    }

    public int inverses(int category) throws IndexOutOfBoundsException, UnsupportedOperationException {
        Category of = categoryAt(category);
        needWhole(of);
        return of.countInverses();
    }

    // ---- presheaves

    public int presheaf(int category)
            throws IndexOutOfBoundsException, UnsupportedOperationException, IllegalStateException {
        Category of = categoryAt(category);
        needWhole(of);
        draft().start(of);
        return keepDraft();
    }

    public int element(int presheaf, int object) throws IndexOutOfBoundsException, IllegalStateException {
        Presheaf of = presheafAt(presheaf);
        needObject(of.category, object);
        int before = of.sizeAt(object);
        if (before >= ELEMENTS) {
            throw new IllegalStateException("there are 4 elements");
        }
        of.setSize(object, before + 1);
        return before;
    }

    public int act(int presheaf, int arrow, int element, int image)
            throws IndexOutOfBoundsException, UnsupportedOperationException {
        Presheaf of = presheafAt(presheaf);
        needArrow(of.category, arrow);
        needElement(of, of.category.toOf(arrow), element);
        needElement(of, of.category.fromOf(arrow), image);
        if (of.category.isIdentity(arrow)) {
            throw new UnsupportedOperationException("the actions of identities are not told");
        }
        int before = of.imageOf(arrow, element);
        of.tell(arrow, element, image);
        return before;
    }

    public int size(int presheaf, int object) throws IndexOutOfBoundsException {
        Presheaf of = presheafAt(presheaf);
        needObject(of.category, object);
        return of.sizeAt(object);
    }

    public int image(int presheaf, int arrow, int element)
            throws IndexOutOfBoundsException, NoSuchElementException {
        Presheaf of = presheafAt(presheaf);
        needArrow(of.category, arrow);
        needElement(of, of.category.toOf(arrow), element);
        int found = of.imageOf(arrow, element);
        if (found < 0) {
            throw new NoSuchElementException("the action was not told");
        }
        return found;
    }

    public boolean isPresheaf(int presheaf) throws IndexOutOfBoundsException {
        return presheafAt(presheaf).isComplete();
    }

    public int drop() throws IllegalStateException {
        if (presheafCount <= 0) {
            throw new IllegalStateException("there is no presheaf");
        }
        presheafCount--;
        return presheafCount;
    }

    public int represent(int category, int object)
            throws IndexOutOfBoundsException, UnsupportedOperationException, IllegalStateException {
        Category of = categoryAt(category);
        needObject(of, object);
        needWhole(of);
        needFit(fillArrows(draft(), of, object));
        return keepDraft();
    }

    public int truth(int category)
            throws IndexOutOfBoundsException, UnsupportedOperationException, IllegalStateException {
        Category of = categoryAt(category);
        needWhole(of);
        needFit(fillSieves(draft(), of));
        return keepDraft();
    }

    public int combine(int presheaf, int other, char kind)
            throws IndexOutOfBoundsException, IllegalArgumentException, UnsupportedOperationException,
            IllegalStateException {
        Presheaf left = presheafAt(presheaf);
        Presheaf right = presheafAt(other);
        if (kind != 'x' && kind != '+' && kind != '^') {
            throw new IllegalArgumentException("there is no such kind");
        }
        needAlikeWhole(left, right);
        if (kind == '^') {
            needFit(fillPower(draft(), left, right));
        } else {
            needFit(fillPair(draft(), left, right, kind == 'x'));
        }
        return keepDraft();
    }

    public int maps(int presheaf, int other) throws IndexOutOfBoundsException, UnsupportedOperationException {
        Presheaf source = presheafAt(presheaf);
        Presheaf goal = presheafAt(other);
        needAlikeWhole(source, goal);
        return countMaps(source, goal);
    }

    public int mapped(int presheaf, int other, int index, int place)
            throws IndexOutOfBoundsException, UnsupportedOperationException, NoSuchElementException {
        Presheaf source = presheafAt(presheaf);
        Presheaf goal = presheafAt(other);
        needPlace(source, place);
        needAlikeWhole(source, goal);
        int count = countMaps(source, goal);
        if (index < 0 || index >= count) {
            throw new NoSuchElementException("there is no such map");
        }
        search.begin(ALL);
        for (int i = 0; i <= index; i++) {
            search.advance();
        }
        return search.valueOf(place);
    }

    public boolean areAlike(int presheaf, int other)
            throws IndexOutOfBoundsException, UnsupportedOperationException {
        Presheaf left = presheafAt(presheaf);
        Presheaf right = presheafAt(other);
        needAlikeWhole(left, right);
        int count = countMaps(left, right);
        return left.hasSizesOf(right) && hasInvertible(left, count);
    }

    public int sections(int presheaf) throws IndexOutOfBoundsException, UnsupportedOperationException {
        Presheaf of = presheafAt(presheaf);
        needWhole(of);
        search.aim(of);
        search.addSections();
        search.prepare();
        return search.countUpTo(MAPS);
    }

    // ---- parts and truth

    public int parts(int presheaf) throws IndexOutOfBoundsException, UnsupportedOperationException {
        Presheaf of = presheafAt(presheaf);
        needWhole(of);
        order.startParts(of);
        return order.countClosed(0);
    }

    public int join(int presheaf, int part, int other, char kind)
            throws IndexOutOfBoundsException, UnsupportedOperationException, IllegalArgumentException {
        Presheaf of = presheafAt(presheaf);
        needWhole(of);
        order.startParts(of);
        needClosed(part);
        needClosed(other);
        if (kind == '&') {
            return part & other;
        }
        if (kind == '|') {
            return part | other;
        }
        if (kind != '>') {
            throw new IllegalArgumentException("there is no such kind");
        }
        return order.implied(part, other);
    }

    public int least(int presheaf, int places)
            throws IndexOutOfBoundsException, UnsupportedOperationException, IllegalArgumentException {
        Presheaf of = presheafAt(presheaf);
        needWhole(of);
        order.startParts(of);
        if ((places & ~order.all) != 0) {
            throw new IllegalArgumentException("there is no such place");
        }
        return order.leastWith(places);
    }

    public int truthOf(int presheaf, int part, int place)
            throws IndexOutOfBoundsException, UnsupportedOperationException, IllegalArgumentException {
        Presheaf of = presheafAt(presheaf);
        needPlace(of, place);
        needWhole(of);
        order.startParts(of);
        needClosed(part);
        return of.truthAt(part, place);
    }

    public boolean isBoolean(int presheaf) throws IndexOutOfBoundsException, UnsupportedOperationException {
        Presheaf of = presheafAt(presheaf);
        needWhole(of);
        order.startParts(of);
        return order.isSymmetric();
    }

    // ---- sieves, covers, sheaves

    public int sieves(int category, int object)
            throws IndexOutOfBoundsException, UnsupportedOperationException {
        Category of = categoryAt(category);
        needObject(of, object);
        needWhole(of);
        order.startSieves(of, object);
        return order.countClosed(0);
    }

    public int cover(int category, int object, int sieve)
            throws IndexOutOfBoundsException, UnsupportedOperationException, IllegalArgumentException {
        Category of = categoryAt(category);
        needObject(of, object);
        needWhole(of);
        order.startSieves(of, object);
        needClosed(sieve);
        of.tellCover(object, sieve);
        of.fixed = true;
        return order.countClosed(of.leastAt(object));
    }

    public int uncover(int category) throws IndexOutOfBoundsException {
        Category of = categoryAt(category);
        int before = of.toldCovers;
        of.forgetCovers();
        return before;
    }

    public boolean covers(int category, int object, int sieve)
            throws IndexOutOfBoundsException, UnsupportedOperationException, IllegalArgumentException {
        Category of = categoryAt(category);
        needObject(of, object);
        needWhole(of);
        order.startSieves(of, object);
        needClosed(sieve);
        return (of.leastAt(object) & ~sieve) == 0;
    }

    public int leastCover(int category, int object)
            throws IndexOutOfBoundsException, UnsupportedOperationException {
        Category of = categoryAt(category);
        needObject(of, object);
        needWhole(of);
        return of.leastAt(object);
    }

    public boolean isSeparated(int presheaf) throws IndexOutOfBoundsException, UnsupportedOperationException {
        Presheaf of = presheafAt(presheaf);
        needWhole(of);
        return of.tellsApart();
    }

    public boolean isSheaf(int presheaf) throws IndexOutOfBoundsException, UnsupportedOperationException {
        Presheaf of = presheafAt(presheaf);
        needWhole(of);
        return gluesAll(of);
    }

    public int plus(int presheaf)
            throws IndexOutOfBoundsException, UnsupportedOperationException, IllegalStateException {
        Presheaf of = presheafAt(presheaf);
        needWhole(of);
        families.aimAtLeast(of);
        needFit(families.fill(draft()));
        return keepDraft();
    }

    // ---- functors

    public int functor(int category, int other)
            throws IndexOutOfBoundsException, UnsupportedOperationException, IllegalStateException {
        Category source = categoryAt(category);
        Category goal = categoryAt(other);
        needWhole(source);
        needWhole(goal);
        if (functorCount >= FUNCTORS) {
            throw new IllegalStateException("there are 4 functors");
        }
        functors[functorCount].start(source, goal);
        source.fixed = true;
        goal.fixed = true;
        functorCount++;
        return functorCount - 1;
    }

    public int sendObject(int functor, int object, int image) throws IndexOutOfBoundsException {
        Functor of = functorAt(functor);
        needObject(of.source, object);
        needObject(of.goal, image);
        int before = of.onObject(object);
        of.tellObject(object, image);
        return before;
    }

    public int sendArrow(int functor, int arrow, int image)
            throws IndexOutOfBoundsException, UnsupportedOperationException {
        Functor of = functorAt(functor);
        needArrow(of.source, arrow);
        needArrow(of.goal, image);
        if (of.source.isIdentity(arrow)) {
            throw new UnsupportedOperationException("identities follow objects");
        }
        int before = of.onArrow(arrow);
        of.tellArrow(arrow, image);
        return before;
    }

    public boolean isFunctor(int functor) throws IndexOutOfBoundsException {
        return functorAt(functor).isComplete();
    }

    public int move(int functor, int presheaf, char way)
            throws IndexOutOfBoundsException, IllegalArgumentException, UnsupportedOperationException,
            IllegalStateException {
        Functor along = functorAt(functor);
        Presheaf of = presheafAt(presheaf);
        if (way != 'b' && way != 'l' && way != 'r') {
            throw new IllegalArgumentException("there is no such way");
        }
        needWhole(of);
        if (!along.isComplete() || of.category != (way == 'b' ? along.goal : along.source)) {
            throw new UnsupportedOperationException("the functor is not whole or of other categories");
        }
        needFit(fillMoved(draft(), along, of, way));
        return keepDraft();
    }

    // ---- figures

    public float sheafShare() throws ArithmeticException {
        int whole = 0;
        int glued = 0;
        for (int i = 0; i < presheafCount; i++) {
            if (presheaves[i].isComplete()) {
                whole++;
                glued += gluesAll(presheaves[i]) ? 1 : 0;
            }
        }
        if (whole == 0) {
            throw new ArithmeticException("there is no whole presheaf");
        }
        return (float) glued / (float) whole;
    }

    public double meanElements() throws ArithmeticException {
        int sum = 0;
        for (int i = 0; i < presheafCount; i++) {
            sum += presheaves[i].total();
        }
        if (presheafCount <= 0) {
            throw new ArithmeticException("there is no presheaf");
        }
        return (double) sum / (double) presheafCount;
    }

    public long checksum() {
        long sum = 7;
        for (int i = 0; i < presheafCount; i++) {
            sum = presheaves[i].addTo(sum);
        }
        return sum;
    }

    public boolean isSound() {
        for (int i = 0; i < presheafCount; i++) {
            Presheaf of = presheaves[i];
            if (of.isComplete() && !(countsArrows(of) && tellsSieves(of))) {
                return false;
            }
        }
        return true;
    }

    // ---- what is asked of arguments

    private Category categoryAt(int number) throws IndexOutOfBoundsException {
        if (number < 0 || number >= categoryCount) {
            throw new IndexOutOfBoundsException("there is no such category");
        }
        return categories[number];
    }

    private Presheaf presheafAt(int number) throws IndexOutOfBoundsException {
        if (number < 0 || number >= presheafCount) {
            throw new IndexOutOfBoundsException("there is no such presheaf");
        }
        return presheaves[number];
    }

    private Functor functorAt(int number) throws IndexOutOfBoundsException {
        if (number < 0 || number >= functorCount) {
            throw new IndexOutOfBoundsException("there is no such functor");
        }
        return functors[number];
    }

    private void needObject(Category of, int object) throws IndexOutOfBoundsException {
        if (!of.hasObject(object)) {
            throw new IndexOutOfBoundsException("there is no such object");
        }
    }

    private void needArrow(Category of, int arrow) throws IndexOutOfBoundsException {
        if (!of.hasArrow(arrow)) {
            throw new IndexOutOfBoundsException("there is no such arrow");
        }
    }

    private void needElement(Presheaf of, int object, int element) throws IndexOutOfBoundsException {
        if (element < 0 || element >= of.sizeAt(object)) {
            throw new IndexOutOfBoundsException("there is no such element");
        }
    }

    private void needPlace(Presheaf of, int place) throws IndexOutOfBoundsException {
        if (place < 0 || place >= of.total()) {
            throw new IndexOutOfBoundsException("there is no such place");
        }
    }

    private void needLoose(Category of) throws UnsupportedOperationException {
        if (of.fixed) {
            throw new UnsupportedOperationException("the category is fixed");
        }
    }

    private void needComposable(Category of, int second, int first) throws UnsupportedOperationException {
        if (of.toOf(first) != of.fromOf(second)) {
            throw new UnsupportedOperationException("the arrows cannot be composed");
        }
    }

    private void needWhole(Category of) throws UnsupportedOperationException {
        if (!of.isComplete()) {
            throw new UnsupportedOperationException("the category is not whole");
        }
    }

    private void needWhole(Presheaf of) throws UnsupportedOperationException {
        if (!of.isComplete()) {
            throw new UnsupportedOperationException("the presheaf is not whole");
        }
    }

    private void needAlikeWhole(Presheaf left, Presheaf right) throws UnsupportedOperationException {
        needWhole(left);
        needWhole(right);
        if (left.category != right.category) {
            throw new UnsupportedOperationException("the presheaves are of unlike categories");
        }
    }

    private void needFit(boolean fits) throws UnsupportedOperationException {
        if (!fits) {
            throw new UnsupportedOperationException("a set would be too big");
        }
    }

    /** Asks of a set that it is a part or a sieve of what the order was started with. */
    private void needClosed(int set) throws IllegalArgumentException {
        if (!order.isClosed(set)) {
            throw new IllegalArgumentException("the set is not closed under arrows");
        }
    }

    // ---- what is added

    private Category nextCategory() throws IllegalStateException {
        if (categoryCount >= CATEGORIES) {
            throw new IllegalStateException("there are 6 categories");
        }
        return categories[categoryCount];
    }

    private int keepCategory() {
        categoryCount++;
        return categoryCount - 1;
    }

    private Presheaf draft() {
        return presheaves[presheafCount];
    }

    /** Gives the draft its number. The room is asked for only here: the document names it last. */
    private int keepDraft() throws IllegalStateException {
        if (presheafCount >= PRESHEAVES) {
            throw new IllegalStateException("there are 10 presheaves");
        }
        draft().category.fixed = true;
        presheafCount++;
        return presheafCount - 1;
    }

    private static boolean fillArrows(Presheaf draft, Category of, int object) {
        draft.start(of);
        for (int arrow = 0; arrow < of.arrows; arrow++) {
            if (of.toOf(arrow) == object && !draft.grow(of.fromOf(arrow), 1)) {
                return false;
            }
        }
        for (int arrow = 0; arrow < of.arrows; arrow++) {
            for (int first = 0; of.toOf(arrow) == object && first < of.arrows; first++) {
                if (of.areComposable(arrow, first)) {
                    draft.tell(first, of.rankOf(arrow), of.rankOf(of.behind(arrow, first)));
                }
            }
        }
        return true;
    }

    private boolean fillSieves(Presheaf draft, Category of) {
        draft.start(of);
        for (int object = 0; object < of.objects; object++) {
            order.startSieves(of, object);
            int count = order.countClosed(0);
            if (!draft.grow(object, count)) {
                return false;
            }
            order.listClosed(sieveRows, object * ELEMENTS, count);
        }
        for (int arrow = 0; arrow < of.arrows; arrow++) {
            for (int element = 0; element < draft.sizeAt(of.toOf(arrow)); element++) {
                int pulled = of.pulledBack(at(sieveRows, of.toOf(arrow) * ELEMENTS + element), arrow);
                draft.tell(arrow, element, sieveNumber(draft, of.fromOf(arrow), pulled));
            }
        }
        return true;
    }

    private int sieveNumber(Presheaf draft, int object, int sieve) {
        for (int element = 0; element < draft.sizeAt(object); element++) {
            if (at(sieveRows, object * ELEMENTS + element) == sieve) {
                return element;
            }
        }
        return -1;
    }

    private static boolean fillPair(Presheaf draft, Presheaf left, Presheaf right, boolean product) {
        Category of = left.category;
        draft.start(of);
        for (int object = 0; object < of.objects; object++) {
            int ours = left.sizeAt(object);
            int theirs = right.sizeAt(object);
            if (!draft.grow(object, product ? ours * theirs : ours + theirs)) {
                return false;
            }
        }
        for (int arrow = 0; arrow < of.arrows; arrow++) {
            for (int element = 0; element < draft.sizeAt(of.toOf(arrow)); element++) {
                int image = product
                        ? pairImage(left, right, arrow, element)
                        : sumImage(left, right, arrow, element);
                draft.tell(arrow, element, image);
            }
        }
        return true;
    }

    private static int pairImage(Presheaf left, Presheaf right, int arrow, int pair) {
        int theirs = right.sizeAt(right.category.toOf(arrow));
        if (theirs <= 0) {
            return -1;
        }
        return left.imageOf(arrow, pair / theirs) * right.sizeAt(right.category.fromOf(arrow))
                + right.imageOf(arrow, pair % theirs);
    }

    private static int sumImage(Presheaf left, Presheaf right, int arrow, int element) {
        int ours = left.sizeAt(left.category.toOf(arrow));
        return element < ours
                ? left.imageOf(arrow, element)
                : left.sizeAt(left.category.fromOf(arrow)) + right.imageOf(arrow, element - ours);
    }

    private boolean fillPower(Presheaf draft, Presheaf exponent, Presheaf base) {
        Category of = exponent.category;
        for (int from = 0; from < of.objects; from++) {
            for (int to = 0; to < of.objects; to++) {
                if (of.countArrows(from, to) * exponent.sizeAt(from) > PAIRS) {
                    return false;
                }
            }
        }
        powers.aim(exponent, base);
        return powers.fill(draft);
    }

    private boolean fillMoved(Presheaf draft, Functor along, Presheaf of, char way) {
        if (way == 'b') {
            fillPulled(draft, along, of);
            return true;
        }
        if (way == 'l') {
            classes.aim(along, of);
            return classes.fill(draft);
        }
        rights.aim(along, of);
        return rights.fill(draft);
    }

    private static void fillPulled(Presheaf draft, Functor along, Presheaf of) {
        Category source = along.source;
        draft.start(source);
        for (int object = 0; object < source.objects; object++) {
            draft.grow(object, of.sizeAt(along.onObject(object)));
        }
        for (int arrow = 0; arrow < source.arrows; arrow++) {
            for (int element = 0; element < draft.sizeAt(source.toOf(arrow)); element++) {
                draft.tell(arrow, element, of.imageOf(along.onArrow(arrow), element));
            }
        }
    }

    // ---- what is looked for

    /** Leaves the search as it stands then, so that the maps can be gone through. */
    private int countMaps(Presheaf source, Presheaf goal) throws UnsupportedOperationException {
        search.aim(goal);
        search.addPlaces(source);
        search.prepare();
        int count = search.countUpTo(MAPS);
        if (count > MAPS) {
            throw new UnsupportedOperationException("there are more than 5000 maps");
        }
        return count;
    }

    private boolean hasInvertible(Presheaf source, int count) {
        search.begin(ALL);
        for (int i = 0; i < count && search.advance(); i++) {
            if (takesApart(source)) {
                return true;
            }
        }
        return false;
    }

    /** Whether the map at which the search stands takes no two elements at an object to one. */
    private boolean takesApart(Presheaf source) {
        for (int place = 0; place < source.total(); place++) {
            for (int other = 0; other < place; other++) {
                if (source.objectAt(place) == source.objectAt(other)
                        && search.valueOf(place) == search.valueOf(other)) {
                    return false;
                }
            }
        }
        return true;
    }

    private boolean gluesAll(Presheaf of) {
        families.aimAtLeast(of);
        return of.tellsApart() && familiesAreElements(of);
    }

    private boolean familiesAreElements(Presheaf of) {
        for (int object = 0; object < of.category.objects; object++) {
            families.setUp(object);
            if (search.countUpTo(ELEMENTS) != of.sizeAt(object)) {
                return false;
            }
        }
        return true;
    }

    /** A family of all arrows to an object is a map from the presheaf of arrows to it. */
    private boolean countsArrows(Presheaf of) {
        families.aimAtAll(of);
        for (int object = 0; object < of.category.objects; object++) {
            families.setUp(object);
            if (of.category.mostArrows(object) <= ELEMENTS
                    && search.countUpTo(ELEMENTS) != of.sizeAt(object)) {
                return false;
            }
        }
        return true;
    }

    private boolean tellsSieves(Presheaf of) {
        order.startParts(of);
        int total = of.total();
        for (int place = 0; place < total; place++) {
            for (int other = 0; other < total; other++) {
                int sieve = of.truthAt(order.leastWith(bit(other)), place);
                if (!of.category.isSieve(of.objectAt(place), sieve)) {
                    return false;
                }
            }
        }
        return true;
    }

    // ---- rows and sets, safe for any index

    private static int at(int[] row, int index) {
        return index >= 0 && index < row.length ? row[index] : -1;
    }

    private static void put(int[] row, int index, int value) {
        if (index >= 0 && index < row.length) {
            row[index] = value;
        }
    }

    private static int bit(int number) {
        return number >= 0 && number < 31 ? 1 << number : 0;
    }

    private static boolean has(int set, int number) {
        return (set & bit(number)) != 0;
    }

    /** An arrow and what goes with it, as one number; -1 if one of both is none. */
    private static int keyOf(int arrow, int tag) {
        return arrow < 0 || tag < 0 || tag >= ELEMENTS ? -1 : arrow * ELEMENTS + tag;
    }

    /** Objects, arrows, told composites, and told covers with what they generate. */
    private static final class Category {
        int objects;
        int arrows;
        int toldCovers;
        boolean fixed;
        private final int[] from = new int[ARROWS];
        private final int[] to = new int[ARROWS];
        private final int[] composites = new int[ARROWS * ARROWS];
        private final long[] told = new long[OBJECTS * ARROW_SETS / WORD];
        private final int[] meets = new int[OBJECTS];
        private final int[] leastCovers = new int[OBJECTS];

        void start(int count) {
            objects = Math.max(0, Math.min(count, OBJECTS));
            arrows = objects;
            fixed = false;
            Arrays.fill(from, -1);
            Arrays.fill(to, -1);
            for (int object = 0; object < objects; object++) {
                from[object] = object;
                to[object] = object;
            }
            Arrays.fill(composites, -1);
            forgetCovers();
        }

        void startOpposite(Category other) {
            start(other.objects);
            for (int arrow = other.objects; arrow < other.arrows; arrow++) {
                addArrow(other.toOf(arrow), other.fromOf(arrow));
            }
            for (int second = objects; second < arrows; second++) {
                for (int first = objects; first < arrows; first++) {
                    tellComposite(second, first, other.behind(first, second));
                }
            }
        }

        void startProduct(Category left, Category right) {
            start(left.objects * right.objects);
            for (int ours = 0; ours < left.arrows; ours++) {
                for (int theirs = 0; theirs < right.arrows; theirs++) {
                    if (ours >= left.objects || theirs >= right.objects) {
                        addArrow(left.fromOf(ours) * right.objects + right.fromOf(theirs),
                                left.toOf(ours) * right.objects + right.toOf(theirs));
                    }
                }
            }
            for (int ours = 0; ours < left.arrows; ours++) {
                for (int theirs = 0; theirs < right.arrows; theirs++) {
                    tellPairsBehind(left, right, ours, theirs);
                }
            }
        }

        private void tellPairsBehind(Category left, Category right, int ours, int theirs) {
            int second = pairOf(left, right, ours, theirs);
            for (int our = 0; our < left.arrows; our++) {
                for (int their = 0; their < right.arrows; their++) {
                    int first = pairOf(left, right, our, their);
                    if (areComposable(second, first)) {
                        tellComposite(second, first,
                                pairOf(left, right, left.behind(ours, our), right.behind(theirs, their)));
                    }
                }
            }
        }

        /** Pairs of identities have the first numbers, and leave gaps in the numbers of all other pairs. */
        private static int pairOf(Category left, Category right, int ours, int theirs) {
            if (ours < left.objects && theirs < right.objects) {
                return ours * right.objects + theirs;
            }
            int identities = left.objects * right.objects;
            int gaps = ours < left.objects ? (ours + 1) * right.objects : identities;
            return identities + ours * right.arrows + theirs - gaps;
        }

        boolean hasObject(int object) {
            return object >= 0 && object < objects;
        }

        boolean hasArrow(int arrow) {
            return arrow >= 0 && arrow < arrows;
        }

        boolean isIdentity(int arrow) {
            return arrow < objects;
        }

        int fromOf(int arrow) {
            return arrow >= 0 && arrow < from.length ? from[arrow] : -1;
        }

        int toOf(int arrow) {
            return arrow >= 0 && arrow < to.length ? to[arrow] : -1;
        }

        void addArrow(int start, int end) {
            if (arrows < ARROWS) {
                from[arrows] = start;
                to[arrows] = end;
                arrows++;
            }
        }

        boolean areComposable(int second, int first) {
            int middle = toOf(first);
            return middle >= 0 && middle == fromOf(second);
        }

        /** The second arrow behind the first one; -1 if they cannot be composed or it was not told. */
        int behind(int second, int first) {
            int middle = toOf(first);
            if (middle < 0 || middle != fromOf(second)) {
                return -1;
            }
            if (isIdentity(first)) {
                return second;
            }
            return isIdentity(second) ? first : at(composites, second * ARROWS + first);
        }

        void tellComposite(int second, int first, int composite) {
            if (areComposable(second, first)) {
                put(composites, second * ARROWS + first, composite);
            }
        }

        boolean isComplete() {
            // Only whole categories are fixed, and nothing of a fixed one can change.
            return fixed || (isTold() && isAssociative());
        }

        private boolean isTold() {
            for (int second = 0; second < arrows; second++) {
                for (int first = 0; first < arrows; first++) {
                    if (areComposable(second, first) && !hasRightEnds(second, first)) {
                        return false;
                    }
                }
            }
            return true;
        }

        private boolean hasRightEnds(int second, int first) {
            int both = behind(second, first);
            return both >= 0 && fromOf(both) == fromOf(first) && toOf(both) == toOf(second);
        }

        private boolean isAssociative() {
            for (int third = 0; third < arrows; third++) {
                for (int second = 0; second < arrows; second++) {
                    if (areComposable(third, second) && !isAssociativeBehind(third, second)) {
                        return false;
                    }
                }
            }
            return true;
        }

        private boolean isAssociativeBehind(int third, int second) {
            int both = behind(third, second);
            for (int first = 0; first < arrows; first++) {
                if (behind(third, behind(second, first)) != behind(both, first)) {
                    return false;
                }
            }
            return true;
        }

        int countInverses() {
            int count = 0;
            for (int arrow = 0; arrow < arrows; arrow++) {
                count += hasInverse(arrow) ? 1 : 0;
            }
            return count;
        }

        private boolean hasInverse(int arrow) {
            for (int other = 0; other < arrows; other++) {
                // An identity has the number of its object.
                if (behind(arrow, other) == toOf(arrow) && behind(other, arrow) == fromOf(arrow)) {
                    return true;
                }
            }
            return false;
        }

        int countArrows(int start, int end) {
            int count = 0;
            for (int arrow = 0; arrow < arrows; arrow++) {
                count += fromOf(arrow) == start && toOf(arrow) == end ? 1 : 0;
            }
            return count;
        }

        int mostArrows(int end) {
            int most = 0;
            for (int start = 0; start < objects; start++) {
                most = Math.max(most, countArrows(start, end));
            }
            return most;
        }

        /** How many arrows with lower numbers have the same ends. */
        int rankOf(int arrow) {
            int rank = 0;
            for (int other = 0; other < arrow && other < arrows; other++) {
                rank += fromOf(other) == fromOf(arrow) && toOf(other) == toOf(arrow) ? 1 : 0;
            }
            return arrow < 0 ? -1 : rank;
        }

        int arrowsTo(int object) {
            int set = 0;
            for (int arrow = 0; arrow < arrows; arrow++) {
                set |= toOf(arrow) == object ? bit(arrow) : 0;
            }
            return set;
        }

        int pulledBack(int sieve, int along) {
            int set = 0;
            for (int arrow = 0; arrow < arrows; arrow++) {
                set |= has(sieve, behind(along, arrow)) ? bit(arrow) : 0;
            }
            return set;
        }

        boolean isSieve(int object, int set) {
            if ((set & ~arrowsTo(object)) != 0) {
                return false;
            }
            for (int second = 0; second < arrows; second++) {
                for (int first = 0; first < arrows; first++) {
                    if (has(set, second) && areComposable(second, first) && !has(set, behind(second, first))) {
                        return false;
                    }
                }
            }
            return true;
        }

        void forgetCovers() {
            toldCovers = 0;
            Arrays.fill(told, 0L);
            Arrays.fill(meets, -1);
        }

        void tellCover(int object, int sieve) {
            if (!hasObject(object) || sieve < 0 || sieve >= ARROW_SETS) {
                return;
            }
            int slot = (object * ARROW_SETS + sieve) / WORD;
            long mark = 1L << (sieve % WORD);
            if ((told[slot] & mark) == 0) {
                told[slot] |= mark;
                toldCovers++;
            }
            meets[object] &= sieve;
            findLeast();
        }

        int leastAt(int object) {
            // Without told covers just the sieves of all arrows cover.
            return toldCovers == 0 ? arrowsTo(object) : at(leastCovers, object);
        }

        /**
         * Finds the greatest sieves, one for each object, that lie in all told ones, in what is pulled back
         * from each other, and have nothing but composites of their own: the topology of all sieves
         * above them is the least one, and every topology is of this form.
         */
        private void findLeast() {
            for (int object = 0; object < objects; object++) {
                leastCovers[object] = arrowsTo(object) & meets[object];
            }
            boolean changed = true;
            // Each round but the last one takes at least one arrow away.
            for (int round = 0; changed && round <= ARROWS; round++) {
                boolean pulled = pullLeast();
                changed = composeLeast() || pulled;
            }
        }

        private boolean pullLeast() {
            boolean changed = false;
            for (int arrow = 0; arrow < arrows; arrow++) {
                int before = leastAt(fromOf(arrow));
                int after = before & pulledBack(leastAt(toOf(arrow)), arrow);
                put(leastCovers, fromOf(arrow), after);
                changed = changed || after != before;
            }
            return changed;
        }

        private boolean composeLeast() {
            boolean changed = false;
            for (int object = 0; object < objects; object++) {
                int before = leastAt(object);
                int after = composedWithin(before);
                leastCovers[object] = after;
                changed = changed || after != before;
            }
            return changed;
        }

        private int composedWithin(int sieve) {
            int set = 0;
            for (int second = 0; second < arrows; second++) {
                int inner = has(sieve, second) ? leastAt(fromOf(second)) : 0;
                for (int first = 0; first < arrows; first++) {
                    set |= has(inner, first) ? bit(behind(second, first)) : 0;
                }
            }
            return set;
        }
    }

    /** Sets with actions. */
    private static final class Presheaf {
        Category category;
        private final int[] sizes = new int[OBJECTS];
        private final int[] actions = new int[KEYS];

        Presheaf(Category category) {
            this.category = category;
        }

        void start(Category of) {
            category = of;
            Arrays.fill(sizes, 0);
            Arrays.fill(actions, -1);
        }

        int sizeAt(int object) {
            return object >= 0 && object < sizes.length ? sizes[object] : 0;
        }

        void setSize(int object, int size) {
            put(sizes, object, size);
        }

        /** Adds elements at an object, if the set does not grow too big by them. */
        boolean grow(int object, int count) {
            int size = sizeAt(object) + count;
            if (size > ELEMENTS) {
                return false;
            }
            setSize(object, size);
            return true;
        }

        boolean hasElement(int object, int element) {
            return element >= 0 && element < sizeAt(object);
        }

        /** Where an action takes an element; -1 if there is no such element or nothing was told. */
        int imageOf(int arrow, int element) {
            if (element < 0 || element >= sizeAt(category.toOf(arrow))) {
                return -1;
            }
            return category.isIdentity(arrow) ? element : at(actions, arrow * ELEMENTS + element);
        }

        void tell(int arrow, int element, int image) {
            if (hasElement(category.toOf(arrow), element)) {
                put(actions, arrow * ELEMENTS + element, image);
            }
        }

        boolean isComplete() {
            for (int second = 0; second < category.arrows; second++) {
                for (int element = 0; element < sizeAt(category.toOf(second)); element++) {
                    if (imageOf(second, element) < 0 || !isKeptBehind(second, element)) {
                        return false;
                    }
                }
            }
            return true;
        }

        private boolean isKeptBehind(int second, int element) {
            int between = imageOf(second, element);
            for (int first = 0; first < category.arrows; first++) {
                if (category.areComposable(second, first)
                        && imageOf(category.behind(second, first), element) != imageOf(first, between)) {
                    return false;
                }
            }
            return true;
        }

        int total() {
            return placeOf(category.objects, 0);
        }

        int placeOf(int object, int element) {
            int place = element;
            for (int before = 0; before < object; before++) {
                place += sizeAt(before);
            }
            return place;
        }

        int objectAt(int place) {
            int object = 0;
            for (int after = 1; after < category.objects; after++) {
                object = place >= placeOf(after, 0) ? after : object;
            }
            return object;
        }

        /** The arrows to where an element is whose actions take it into a part. */
        int truthAt(int part, int place) {
            int object = objectAt(place);
            int element = place - placeOf(object, 0);
            int set = 0;
            for (int arrow = 0; arrow < category.arrows; arrow++) {
                if (category.toOf(arrow) == object
                        && has(part, placeOf(category.fromOf(arrow), imageOf(arrow, element)))) {
                    set |= bit(arrow);
                }
            }
            return set;
        }

        boolean hasSizesOf(Presheaf other) {
            for (int object = 0; object < category.objects; object++) {
                if (sizeAt(object) != other.sizeAt(object)) {
                    return false;
                }
            }
            return true;
        }

        /** Whether no two elements have the same family of the least cover. */
        boolean tellsApart() {
            for (int object = 0; object < category.objects; object++) {
                for (int element = 0; element < sizeAt(object); element++) {
                    for (int other = 0; other < element; other++) {
                        if (!areApart(category.leastAt(object), element, other)) {
                            return false;
                        }
                    }
                }
            }
            return true;
        }

        private boolean areApart(int sieve, int element, int other) {
            for (int arrow = 0; arrow < category.arrows; arrow++) {
                if (has(sieve, arrow) && imageOf(arrow, element) != imageOf(arrow, other)) {
                    return true;
                }
            }
            return false;
        }

        long addTo(long before) {
            long sum = before;
            for (int object = 0; object < category.objects; object++) {
                sum = 31 * sum + sizeAt(object);
            }
            for (int arrow = 0; arrow < category.arrows; arrow++) {
                for (int element = 0; element < sizeAt(category.toOf(arrow)); element++) {
                    sum = 31 * sum + imageOf(arrow, element);
                }
            }
            return sum;
        }
    }

    /** Objects for objects and arrows for arrows. */
    private static final class Functor {
        Category source;
        Category goal;
        private final int[] objectImages = new int[OBJECTS];
        private final int[] arrowImages = new int[ARROWS];

        Functor(Category source, Category goal) {
            this.source = source;
            this.goal = goal;
        }

        void start(Category first, Category second) {
            source = first;
            goal = second;
            Arrays.fill(objectImages, -1);
            Arrays.fill(arrowImages, -1);
        }

        void tellObject(int object, int image) {
            put(objectImages, object, image);
        }

        void tellArrow(int arrow, int image) {
            put(arrowImages, arrow, image);
        }

        int onObject(int object) {
            return at(objectImages, object);
        }

        int onArrow(int arrow) {
            // An identity has the number of its object, in both categories.
            return source.isIdentity(arrow) ? at(objectImages, arrow) : at(arrowImages, arrow);
        }

        boolean isComplete() {
            for (int arrow = 0; arrow < source.arrows; arrow++) {
                int image = onArrow(arrow);
                if (image < 0 || goal.fromOf(image) != onObject(source.fromOf(arrow))
                        || goal.toOf(image) != onObject(source.toOf(arrow))) {
                    return false;
                }
            }
            return keepsComposites();
        }

        private boolean keepsComposites() {
            for (int second = 0; second < source.arrows; second++) {
                for (int first = 0; first < source.arrows; first++) {
                    if (source.areComposable(second, first)
                            && onArrow(source.behind(second, first)) != goal.behind(onArrow(second), onArrow(first))) {
                        return false;
                    }
                }
            }
            return true;
        }
    }

    /** What lies below what: places below those that actions take to them, or composites below arrows. */
    private static final class Order {
        int all;
        private final int[] below = new int[PLACES];
        private final int[] above = new int[PLACES];
        private final int[] open = new int[2 * PLACES];

        void startParts(Presheaf presheaf) {
            Category category = presheaf.category;
            Arrays.fill(below, 0);
            all = bit(presheaf.total()) - 1;
            for (int arrow = 0; arrow < category.arrows; arrow++) {
                int to = category.toOf(arrow);
                for (int element = 0; element < presheaf.sizeAt(to); element++) {
                    int image = presheaf.placeOf(category.fromOf(arrow), presheaf.imageOf(arrow, element));
                    int place = presheaf.placeOf(to, element);
                    put(below, place, at(below, place) | bit(image));
                }
            }
            findAbove();
        }

        void startSieves(Category category, int object) {
            Arrays.fill(below, 0);
            all = category.arrowsTo(object);
            for (int second = 0; second < category.arrows; second++) {
                for (int first = 0; has(all, second) && first < category.arrows; first++) {
                    below[second] |= bit(category.behind(second, first));
                }
            }
            findAbove();
        }

        private void findAbove() {
            for (int low = 0; low < PLACES; low++) {
                above[low] = 0;
                for (int high = 0; high < PLACES; high++) {
                    above[low] |= has(below[high], low) ? bit(high) : 0;
                }
            }
        }

        boolean isClosed(int set) {
            return (set & ~all) == 0 && leastWith(set) == set;
        }

        int leastWith(int set) {
            int closed = 0;
            for (int member = 0; member < PLACES; member++) {
                closed |= has(set, member) ? below[member] : 0;
            }
            return closed;
        }

        int implied(int set, int other) {
            int found = 0;
            for (int member = 0; member < PLACES; member++) {
                found |= has(all, member) && (below[member] & set & ~other) == 0 ? bit(member) : 0;
            }
            return found;
        }

        /** Each part has a complement that is a part just if nothing lies strictly below anything. */
        boolean isSymmetric() {
            for (int member = 0; member < PLACES; member++) {
                if (below[member] != above[member]) {
                    return false;
                }
            }
            return true;
        }

        /** How many closed sets have a closed one in them: by one member more, that is in or out. */
        int countClosed(int must) {
            int count = 0;
            int waiting = 1;
            open[0] = all & ~must;
            for (int step = 0; waiting > 0 && step < STEPS; step++) {
                waiting--;
                int rest = at(open, waiting);
                int pivot = mostRelated(rest);
                if (pivot < 0) {
                    count += bit(Integer.bitCount(rest));
                } else {
                    put(open, waiting, rest & ~at(below, pivot));
                    put(open, waiting + 1, rest & ~at(above, pivot));
                    waiting += 2;
                }
            }
            return count;
        }

        /** The member with most others above or below it; -1 if all of them stand alone. */
        private int mostRelated(int rest) {
            int found = -1;
            int most = 1;
            for (int member = 0; member < PLACES; member++) {
                int related = Integer.bitCount((below[member] | above[member]) & rest);
                if (has(rest, member) && related > most) {
                    most = related;
                    found = member;
                }
            }
            return found;
        }

        /** Writes the first closed sets into a row, by rising bits. */
        void listClosed(int[] row, int start, int count) {
            int listed = 0;
            for (int set = 0; set <= all && listed < count; set++) {
                if (isClosed(set)) {
                    put(row, start + listed, set);
                    listed++;
                }
            }
        }
    }

    /**
     * Looks for values of variables, each one an element of the target at some object, such that
     * each link holds: the action of its arrow takes the value where it begins to that where it ends.
     * Domains are kept as sets of elements; each row has those after one choice more.
     */
    private static final class Search {
        Presheaf target;
        private int variables;
        private int links;
        private boolean possible;
        private int scoped;
        private int level;
        private boolean entering;
        private final int[] linkFrom = new int[LINKS];
        private final int[] linkArrow = new int[LINKS];
        private final int[] linkTo = new int[LINKS];
        private final int[] images = new int[ARROWS * ELEMENT_SETS];
        private final int[] origins = new int[ARROWS * ELEMENT_SETS];
        private final int[] groups = new int[KEYS];
        private final int[] scope = new int[KEYS];
        private final int[] left = new int[KEYS];
        private final int[] rows = new int[(KEYS + 1) * KEYS];

        Search(Presheaf target) {
            this.target = target;
        }

        void aim(Presheaf presheaf) {
            target = presheaf;
            for (int arrow = 0; arrow < target.category.arrows; arrow++) {
                for (int set = 0; set < ELEMENT_SETS; set++) {
                    aimArrow(arrow, set);
                }
            }
            clear();
        }

        private void aimArrow(int arrow, int set) {
            int hit = 0;
            int origin = 0;
            for (int element = 0; element < target.sizeAt(target.category.toOf(arrow)); element++) {
                int image = target.imageOf(arrow, element);
                hit |= has(set, element) ? bit(image) : 0;
                origin |= has(set, image) ? bit(element) : 0;
            }
            put(images, arrow * ELEMENT_SETS + set, hit);
            put(origins, arrow * ELEMENT_SETS + set, origin);
        }

        void clear() {
            variables = 0;
            links = 0;
        }

        int addVariable(int object) {
            if (variables >= KEYS) {
                return -1;
            }
            rows[variables] = bit(target.sizeAt(object)) - 1;
            variables++;
            return variables - 1;
        }

        void addLink(int start, int arrow, int end) {
            boolean known = start >= 0 && start < variables && end >= 0 && end < variables;
            boolean acts = target.category.hasArrow(arrow) && !target.category.isIdentity(arrow);
            if (known && acts && links < LINKS) {
                linkFrom[links] = start;
                linkArrow[links] = arrow;
                linkTo[links] = end;
                links++;
            }
        }

        /** One variable for each place: a solution is a map. */
        void addPlaces(Presheaf source) {
            Category category = source.category;
            for (int place = 0; place < source.total(); place++) {
                addVariable(source.objectAt(place));
            }
            for (int arrow = 0; arrow < category.arrows; arrow++) {
                int to = category.toOf(arrow);
                for (int element = 0; element < source.sizeAt(to); element++) {
                    int image = source.imageOf(arrow, element);
                    addLink(source.placeOf(to, element), arrow, source.placeOf(category.fromOf(arrow), image));
                }
            }
        }

        /** One variable for each object: a solution is a section. */
        void addSections() {
            Category category = target.category;
            for (int object = 0; object < category.objects; object++) {
                addVariable(object);
            }
            for (int arrow = 0; arrow < category.arrows; arrow++) {
                addLink(category.toOf(arrow), arrow, category.fromOf(arrow));
            }
        }

        void prepare() {
            possible = true;
            for (int variable = 0; variable < variables; variable++) {
                possible = possible && rows[variable] != 0;
                groups[variable] = variable;
            }
            for (int link = 0; link < links; link++) {
                narrow(link);
                joinGroups(groups[linkFrom[link]], groups[linkTo[link]]);
            }
            possible = possible && settle(0);
        }

        /** Links with the same ends must agree, what settling alone does not see before a choice. */
        private void narrow(int link) {
            int variable = linkFrom[link];
            for (int element = 0; element < ELEMENTS; element++) {
                int choice = bit(element);
                int image = imageOf(link, choice);
                boolean agrees = linkTo[link] != variable || image == choice;
                for (int other = 0; other < link; other++) {
                    boolean parallel = linkFrom[other] == variable && linkTo[other] == linkTo[link];
                    agrees = agrees && (!parallel || imageOf(other, choice) == image);
                }
                rows[variable] &= agrees ? -1 : ~choice;
            }
        }

        private int imageOf(int link, int set) {
            return at(images, linkArrow[link] * ELEMENT_SETS + set);
        }

        private void joinGroups(int one, int other) {
            int lower = Math.min(one, other);
            int higher = Math.max(one, other);
            for (int variable = 0; variable < variables; variable++) {
                groups[variable] = groups[variable] == higher ? lower : groups[variable];
            }
        }

        /** Takes away what no link leaves possible; false if nothing is left of some domain. */
        private boolean settle(int start) {
            boolean changed = start >= 0 && start + KEYS <= rows.length;
            // Each pass but the last one takes at least one element away.
            for (int pass = 0; changed && pass <= KEYS * ELEMENTS; pass++) {
                changed = false;
                for (int link = 0; link < links; link++) {
                    int source = start + linkFrom[link];
                    int goal = start + linkTo[link];
                    int table = linkArrow[link] * ELEMENT_SETS;
                    int after = rows[goal] & images[table + rows[source]];
                    int before = rows[source] & origins[table + after];
                    if (before == 0 || after == 0) {
                        return false;
                    }
                    changed = changed || before != rows[source] || after != rows[goal];
                    rows[goal] = after;
                    rows[source] = source == goal ? before & after : before;
                }
            }
            return true;
        }

        /** How many solutions there are; one more than the limit stands for all that are more. */
        int countUpTo(int limit) {
            int product = possible ? 1 : 0;
            for (int group = 0; product > 0 && group < variables; group++) {
                if (groups[group] == group) {
                    // Even beyond the limit a group must be looked at: without any solution, it leaves none.
                    int most = limit / product;
                    int count = 0;
                    begin(group);
                    while (count <= most && advance()) {
                        count++;
                    }
                    product = Math.min(product * count, limit + 1);
                }
            }
            return product;
        }

        /** Begins to go through the solutions for one group of variables, or for all. */
        void begin(int group) {
            scoped = 0;
            for (int variable = 0; variable < variables; variable++) {
                if (group == ALL || groups[variable] == group) {
                    scope[scoped] = variable;
                    scoped++;
                }
            }
            level = possible ? 0 : -1;
            entering = true;
        }

        /** Goes to the next solution, by rising values of variables; false if there is none. */
        boolean advance() {
            if (!entering) {
                level--;
            }
            for (int step = 0; level >= 0 && step < STEPS; step++) {
                if (level >= scoped) {
                    entering = false;
                    return true;
                }
                if (entering) {
                    left[level] = rows[level * KEYS + scope[level]];
                }
                int choices = left[level];
                left[level] = choices & (choices - 1);
                entering = choices != 0 && choose(choices & -choices);
                level += entering ? 1 : choices == 0 ? -1 : 0;
            }
            return false;
        }

        /** Writes the row after a choice for the variable of the level; false if it leaves nothing. */
        private boolean choose(int choice) {
            int start = level * KEYS;
            int next = start + KEYS;
            int variable = scope[level];
            System.arraycopy(rows, start, rows, next, variables);
            if (rows[next + variable] == choice) {
                return true;
            }
            rows[next + variable] = choice;
            return settle(next);
        }

        int valueOf(int variable) {
            int choice = at(rows, level * KEYS + variable);
            // The elements below the chosen one are as many as its number.
            return choice <= 0 ? -1 : Integer.bitCount(choice - 1);
        }
    }

    /**
     * A presheaf whose elements at an object are the solutions of a search with one variable for each
     * pair of an arrow to the object and a tag; an action takes a solution to what it does behind the arrow.
     */
    private abstract static class Homs {
        final Search search;
        Category outer;
        private final int[] variableOf = new int[KEYS];
        private final int[] values = new int[OBJECTS * ELEMENTS * KEYS];

        Homs(Search search, Category outer) {
            this.search = search;
            this.outer = outer;
        }

        abstract boolean hasPair(int arrow, int tag);

        /** Where the value of a pair lies. */
        abstract int objectOf(int arrow, int tag);

        /** What counts more than the arrow and the tag in the order of the variables. */
        abstract int rankOf(int arrow, int tag);

        /** The pair to which the value of a pair is taken by the action of an arrow. */
        abstract int actedKey(int arrow, int tag, int inner);

        void setUp(int object) {
            search.clear();
            Arrays.fill(variableOf, -1);
            for (int rank = 0; rank < OBJECTS; rank++) {
                addVariables(object, rank);
            }
            for (int key = 0; key < KEYS; key++) {
                addLinks(key);
            }
            search.prepare();
        }

        private void addVariables(int object, int rank) {
            for (int key = 0; key < KEYS; key++) {
                int arrow = key / ELEMENTS;
                int tag = key % ELEMENTS;
                if (outer.toOf(arrow) == object && outer.hasArrow(arrow)
                        && hasPair(arrow, tag) && rankOf(arrow, tag) == rank) {
                    variableOf[key] = search.addVariable(objectOf(arrow, tag));
                }
            }
        }

        private void addLinks(int key) {
            int arrow = key / ELEMENTS;
            int tag = key % ELEMENTS;
            Category inside = search.target.category;
            for (int inner = 0; variableOf[key] >= 0 && inner < inside.arrows; inner++) {
                if (inside.toOf(inner) == objectOf(arrow, tag)) {
                    search.addLink(variableOf[key], inner, at(variableOf, actedKey(arrow, tag, inner)));
                }
            }
        }

        boolean fill(Presheaf draft) {
            draft.start(outer);
            for (int object = 0; object < outer.objects; object++) {
                setUp(object);
                int count = search.countUpTo(ELEMENTS);
                if (!draft.grow(object, count)) {
                    return false;
                }
                keepSolutions(object, count);
            }
            for (int arrow = 0; arrow < outer.arrows; arrow++) {
                for (int element = 0; element < draft.sizeAt(outer.toOf(arrow)); element++) {
                    draft.tell(arrow, element, solutionBehind(draft, arrow, element));
                }
            }
            return true;
        }

        private void keepSolutions(int object, int count) {
            search.begin(ALL);
            for (int element = 0; element < count && search.advance(); element++) {
                for (int key = 0; key < KEYS; key++) {
                    int value = variableOf[key] < 0 ? -1 : search.valueOf(variableOf[key]);
                    put(values, (object * ELEMENTS + element) * KEYS + key, value);
                }
            }
        }

        private int valueAt(int object, int element, int key) {
            return key < 0 ? -1 : at(values, (object * ELEMENTS + element) * KEYS + key);
        }

        private int solutionBehind(Presheaf draft, int arrow, int element) {
            for (int found = 0; found < draft.sizeAt(outer.fromOf(arrow)); found++) {
                if (isBehind(arrow, element, found)) {
                    return found;
                }
            }
            return -1;
        }

        private boolean isBehind(int arrow, int element, int found) {
            for (int key = 0; key < KEYS; key++) {
                int value = valueAt(outer.fromOf(arrow), found, key);
                int behind = keyOf(outer.behind(arrow, key / ELEMENTS), key % ELEMENTS);
                if (value >= 0 && value != valueAt(outer.toOf(arrow), element, behind)) {
                    return false;
                }
            }
            return true;
        }
    }

    /** Families of sieves: a pair is an arrow of the sieve, without a tag. */
    private static final class Families extends Homs {
        private final int[] sieveAt = new int[OBJECTS];

        Families(Search search, Category outer) {
            super(search, outer);
        }

        void aimAtLeast(Presheaf of) {
            search.aim(of);
            outer = of.category;
            for (int object = 0; object < outer.objects; object++) {
                put(sieveAt, object, outer.leastAt(object));
            }
        }

        void aimAtAll(Presheaf of) {
            search.aim(of);
            outer = of.category;
            for (int object = 0; object < outer.objects; object++) {
                put(sieveAt, object, outer.arrowsTo(object));
            }
        }

        boolean hasPair(int arrow, int tag) {
            return tag == 0 && has(at(sieveAt, outer.toOf(arrow)), arrow);
        }

        int objectOf(int arrow, int tag) {
            return outer.fromOf(arrow);
        }

        int rankOf(int arrow, int tag) {
            return 0;
        }

        int actedKey(int arrow, int tag, int inner) {
            return keyOf(outer.behind(arrow, inner), tag);
        }
    }

    /** The power: a pair is an arrow with an element of the exponent at where it comes from. */
    private static final class Powers extends Homs {
        private Presheaf exponent;

        Powers(Search search, Presheaf exponent) {
            super(search, exponent.category);
            this.exponent = exponent;
        }

        void aim(Presheaf first, Presheaf second) {
            search.aim(second);
            exponent = first;
            outer = first.category;
        }

        boolean hasPair(int arrow, int tag) {
            return exponent.hasElement(outer.fromOf(arrow), tag);
        }

        int objectOf(int arrow, int tag) {
            return outer.fromOf(arrow);
        }

        int rankOf(int arrow, int tag) {
            return outer.fromOf(arrow);
        }

        int actedKey(int arrow, int tag, int inner) {
            return keyOf(outer.behind(arrow, inner), exponent.imageOf(inner, tag));
        }
    }

    /** What is pushed forward to the right: a pair is an arrow from where an object, the tag, goes. */
    private static final class Rights extends Homs {
        private Functor along;

        Rights(Search search, Functor along) {
            super(search, along.goal);
            this.along = along;
        }

        void aim(Functor functor, Presheaf of) {
            search.aim(of);
            along = functor;
            outer = functor.goal;
        }

        boolean hasPair(int arrow, int tag) {
            return along.source.hasObject(tag) && along.onObject(tag) == outer.fromOf(arrow);
        }

        int objectOf(int arrow, int tag) {
            return tag;
        }

        int rankOf(int arrow, int tag) {
            return tag;
        }

        int actedKey(int arrow, int tag, int inner) {
            return keyOf(outer.behind(arrow, along.onArrow(inner)), along.source.fromOf(inner));
        }
    }

    /**
     * What is pushed forward to the left: classes of triples of an object, an element there and an
     * arrow to where the object goes, told by one number; a class is told by its first triple.
     */
    private static final class Classes {
        private Functor along;
        private Presheaf moved;
        private final int[] firsts = new int[OBJECTS * ELEMENTS * ARROWS];
        private final int[] numbers = new int[OBJECTS * ELEMENTS * ARROWS];

        Classes(Functor along, Presheaf moved) {
            this.along = along;
            this.moved = moved;
        }

        void aim(Functor functor, Presheaf of) {
            along = functor;
            moved = of;
        }

        private static int tripleOf(int object, int element, int arrow) {
            return object < 0 || element < 0 || arrow < 0 ? -1 : (object * ELEMENTS + element) * ARROWS + arrow;
        }

        private static int objectOf(int triple) {
            return triple / (ELEMENTS * ARROWS);
        }

        private static int elementOf(int triple) {
            return triple / ARROWS % ELEMENTS;
        }

        private static int arrowOf(int triple) {
            return triple % ARROWS;
        }

        private boolean isTriple(int triple) {
            int object = objectOf(triple);
            return moved.hasElement(object, elementOf(triple)) && along.goal.hasArrow(arrowOf(triple))
                    && along.goal.toOf(arrowOf(triple)) == along.onObject(object);
        }

        boolean fill(Presheaf draft) {
            draft.start(along.goal);
            for (int triple = 0; triple < firsts.length; triple++) {
                firsts[triple] = triple;
            }
            for (int triple = 0; triple < firsts.length; triple++) {
                if (isTriple(triple)) {
                    joinAlong(triple);
                }
            }
            return number(draft) && tellActions(draft);
        }

        /** A triple with an action done to its element is one with the arrow's image behind. */
        private void joinAlong(int triple) {
            Category source = moved.category;
            for (int arrow = 0; arrow < source.arrows; arrow++) {
                for (int element = 0; element < moved.sizeAt(source.toOf(arrow)); element++) {
                    if (source.fromOf(arrow) == objectOf(triple)
                            && moved.imageOf(arrow, element) == elementOf(triple)) {
                        int behind = along.goal.behind(along.onArrow(arrow), arrowOf(triple));
                        joinClasses(triple, tripleOf(source.toOf(arrow), element, behind));
                    }
                }
            }
        }

        private void joinClasses(int one, int other) {
            int lower = Math.min(at(firsts, one), at(firsts, other));
            int higher = Math.max(at(firsts, one), at(firsts, other));
            for (int triple = 0; lower >= 0 && triple < firsts.length; triple++) {
                firsts[triple] = firsts[triple] == higher ? lower : firsts[triple];
            }
        }

        private boolean number(Presheaf draft) {
            for (int triple = 0; triple < firsts.length; triple++) {
                if (firsts[triple] == triple && isTriple(triple)) {
                    int object = along.goal.fromOf(arrowOf(triple));
                    numbers[triple] = draft.sizeAt(object);
                    if (!draft.grow(object, 1)) {
                        return false;
                    }
                }
            }
            return true;
        }

        private boolean tellActions(Presheaf draft) {
            for (int triple = 0; triple < firsts.length; triple++) {
                for (int arrow = 0; firsts[triple] == triple && arrow < along.goal.arrows; arrow++) {
                    int behind = along.goal.behind(arrowOf(triple), arrow);
                    int acted = tripleOf(objectOf(triple), elementOf(triple), behind);
                    if (isTriple(triple) && acted >= 0) {
                        draft.tell(arrow, numbers[triple], at(numbers, at(firsts, acted)));
                    }
                }
            }
            return true;
        }
    }
}
