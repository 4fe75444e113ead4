import java.util.ArrayList;
import java.util.Arrays;
import java.util.List;
import java.util.NoSuchElementException;
import java.util.TreeSet;

/** The document once more, word by word and without any thought of speed: what random runs are compared to. */
public final class SlowHouse {
    private static final int UNTOLD = -1;

    static final class Cat {
        int objects;
        List<int[]> ends = new ArrayList<>();
        int[][] told = new int[12][12];
        boolean fixed;
        TreeSet<Integer> covers = new TreeSet<>();

        Cat(int objects) {
            this.objects = objects;
            for (int i = 0; i < objects; i++) {
                ends.add(new int[] {i, i});
            }
            for (int[] row : told) {
                Arrays.fill(row, UNTOLD);
            }
        }

        int from(int arrow) {
            return ends.get(arrow)[0];
        }

        int to(int arrow) {
            return ends.get(arrow)[1];
        }

        boolean meet(int second, int first) {
            return to(first) == from(second);
        }

        int then(int second, int first) {
            if (second < objects) {
                return first;
            }
            return first < objects ? second : told[second][first];
        }

        boolean whole() {
            int n = ends.size();
            for (int f = 0; f < n; f++) {
                for (int g = 0; g < n; g++) {
                    if (meet(g, f)) {
                        int c = then(g, f);
                        if (c == UNTOLD || from(c) != from(f) || to(c) != to(g)) {
                            return false;
                        }
                    }
                }
            }
            for (int f = 0; f < n; f++) {
                for (int g = 0; g < n; g++) {
                    for (int h = 0; h < n; h++) {
                        if (meet(g, f) && meet(h, g) && then(h, then(g, f)) != then(then(h, g), f)) {
                            return false;
                        }
                    }
                }
            }
            return true;
        }

        boolean sieve(int object, int set) {
            if (set < 0 || set >= 1 << ends.size()) {
                return false;
            }
            for (int f = 0; f < ends.size(); f++) {
                if ((set >> f & 1) == 1) {
                    if (to(f) != object) {
                        return false;
                    }
                    for (int g = 0; g < ends.size(); g++) {
                        if (meet(f, g) && (set >> then(f, g) & 1) == 0) {
                            return false;
                        }
                    }
                }
            }
            return true;
        }

        List<Integer> allSieves(int object) {
            List<Integer> found = new ArrayList<>();
            for (int set = 0; set < 1 << ends.size(); set++) {
                if (sieve(object, set)) {
                    found.add(set);
                }
            }
            return found;
        }

        int full(int object) {
            int set = 0;
            for (int f = 0; f < ends.size(); f++) {
                set += to(f) == object ? 1 << f : 0;
            }
            return set;
        }

        int pull(int sieve, int f) {
            int set = 0;
            for (int g = 0; g < ends.size(); g++) {
                if (meet(f, g) && (sieve >> then(f, g) & 1) == 1) {
                    set += 1 << g;
                }
            }
            return set;
        }

        /** The covering sieves of each object, by adding what the rules ask for until nothing is new. */
        List<TreeSet<Integer>> topology() {
            List<TreeSet<Integer>> covering = new ArrayList<>();
            List<List<Integer>> all = new ArrayList<>();
            for (int o = 0; o < objects; o++) {
                covering.add(new TreeSet<>(List.of(full(o))));
                all.add(allSieves(o));
            }
            for (int told : covers) {
                covering.get(told / 4096).add(told % 4096);
            }
            boolean grows = true;
            while (grows) {
                grows = false;
                for (int f = 0; f < ends.size(); f++) {
                    for (int s : new ArrayList<>(covering.get(to(f)))) {
                        grows |= covering.get(from(f)).add(pull(s, f));
                    }
                }
                for (int o = 0; o < objects; o++) {
                    for (int s : all.get(o)) {
                        if (!covering.get(o).contains(s) && coversLocally(covering, o, s)) {
                            covering.get(o).add(s);
                            grows = true;
                        }
                    }
                }
            }
            return covering;
        }

        private boolean coversLocally(List<TreeSet<Integer>> covering, int object, int sieve) {
            for (int r : covering.get(object)) {
                boolean each = true;
                for (int f = 0; f < ends.size() && each; f++) {
                    each = (r >> f & 1) == 0 || covering.get(from(f)).contains(pull(sieve, f));
                }
                if (each) {
                    return true;
                }
            }
            return false;
        }

        int least(int object) {
            int set = -1;
            for (int s : topology().get(object)) {
                set &= s;
            }
            return set;
        }
    }

    /** A presheaf with sets of any size, for what is made on the way, too. */
    static final class Pre {
        Cat cat;
        int[] sizes;
        int[][] acts;

        Pre(Cat cat, int[] sizes) {
            this.cat = cat;
            this.sizes = sizes;
            acts = new int[12][];
            for (int f = 0; f < 12; f++) {
                acts[f] = new int[f < cat.ends.size() ? Math.max(4, sizes[cat.to(f)]) : 4];
                Arrays.fill(acts[f], UNTOLD);
            }
        }

        int act(int f, int x) {
            return f < cat.objects ? x : acts[f][x];
        }

        boolean whole() {
            int n = cat.ends.size();
            for (int f = 0; f < n; f++) {
                for (int x = 0; x < sizes[cat.to(f)]; x++) {
                    if (act(f, x) == UNTOLD) {
                        return false;
                    }
                }
            }
            for (int f = 0; f < n; f++) {
                for (int g = 0; g < n; g++) {
                    for (int x = 0; cat.meet(g, f) && x < sizes[cat.to(g)]; x++) {
                        if (act(cat.then(g, f), x) != act(f, act(g, x))) {
                            return false;
                        }
                    }
                }
            }
            return true;
        }

        List<int[]> places() {
            List<int[]> found = new ArrayList<>();
            for (int o = 0; o < cat.objects; o++) {
                for (int x = 0; x < sizes[o]; x++) {
                    found.add(new int[] {o, x});
                }
            }
            return found;
        }

        int place(int object, int element) {
            int place = element;
            for (int o = 0; o < object; o++) {
                place += sizes[o];
            }
            return place;
        }

        boolean tooBig() {
            for (int o = 0; o < cat.objects; o++) {
                if (sizes[o] > 4) {
                    return true;
                }
            }
            return false;
        }

        boolean part(int set) {
            List<int[]> places = places();
            if (set < 0 || set >= 1 << places.size()) {
                return false;
            }
            for (int p = 0; p < places.size(); p++) {
                for (int f = 0; (set >> p & 1) == 1 && f < cat.ends.size(); f++) {
                    if (cat.to(f) == places.get(p)[0]
                            && (set >> place(cat.from(f), act(f, places.get(p)[1])) & 1) == 0) {
                        return false;
                    }
                }
            }
            return true;
        }

        int implied(int part, int other) {
            int set = 0;
            List<int[]> places = places();
            for (int p = 0; p < places.size(); p++) {
                boolean each = true;
                for (int f = 0; f < cat.ends.size(); f++) {
                    if (cat.to(f) == places.get(p)[0]) {
                        int q = place(cat.from(f), act(f, places.get(p)[1]));
                        each &= (part >> q & 1) == 0 || (other >> q & 1) == 1;
                    }
                }
                set += each ? 1 << p : 0;
            }
            return set;
        }

        int truth(int part, int place) {
            int[] at = places().get(place);
            int set = 0;
            for (int f = 0; f < cat.ends.size(); f++) {
                if (cat.to(f) == at[0] && (part >> place(cat.from(f), act(f, at[1])) & 1) == 1) {
                    set += 1 << f;
                }
            }
            return set;
        }

        int leastPart(int places) {
            int best = (1 << places().size()) - 1;
            for (int set = 0; set < 1 << places().size(); set++) {
                if ((places & ~set) == 0 && part(set)) {
                    best &= set;
                }
            }
            return best;
        }
    }

    static final class Fun {
        Cat first;
        Cat second;
        int[] objects = {UNTOLD, UNTOLD, UNTOLD, UNTOLD};
        int[] arrows = new int[12];

        Fun(Cat first, Cat second) {
            this.first = first;
            this.second = second;
            Arrays.fill(arrows, UNTOLD);
        }

        int send(int f) {
            return f < first.objects ? objects[f] : arrows[f];
        }

        boolean whole() {
            for (int f = 0; f < first.ends.size(); f++) {
                if (send(f) == UNTOLD) {
                    return false;
                }
            }
            for (int f = 0; f < first.ends.size(); f++) {
                if (second.from(send(f)) != objects[first.from(f)]
                        || second.to(send(f)) != objects[first.to(f)]) {
                    return false;
                }
            }
            for (int f = 0; f < first.ends.size(); f++) {
                for (int g = 0; g < first.ends.size(); g++) {
                    if (first.meet(g, f) && send(first.then(g, f)) != second.then(send(g), send(f))) {
                        return false;
                    }
                }
            }
            return true;
        }
    }

    final List<Cat> cats = new ArrayList<>();
    final List<Pre> pres = new ArrayList<>();
    final List<Fun> funs = new ArrayList<>();

    private Cat cat(int number) {
        if (number < 0 || number >= cats.size()) {
            throw new IndexOutOfBoundsException();
        }
        return cats.get(number);
    }

    private Pre pre(int number) {
        if (number < 0 || number >= pres.size()) {
            throw new IndexOutOfBoundsException();
        }
        return pres.get(number);
    }

    private Fun fun(int number) {
        if (number < 0 || number >= funs.size()) {
            throw new IndexOutOfBoundsException();
        }
        return funs.get(number);
    }

    private static void index(int number, int count) {
        if (number < 0 || number >= count) {
            throw new IndexOutOfBoundsException();
        }
    }

    private static void supported(boolean is) {
        if (!is) {
            throw new UnsupportedOperationException();
        }
    }

    private static void argument(boolean is) {
        if (!is) {
            throw new IllegalArgumentException();
        }
    }

    private static void state(boolean is) {
        if (!is) {
            throw new IllegalStateException();
        }
    }

    private int add(Cat made) {
        state(cats.size() < 6);
        cats.add(made);
        return cats.size() - 1;
    }

    private int add(Pre made) {
        supported(!made.tooBig());
        state(pres.size() < 10);
        pres.add(made);
        made.cat.fixed = true;
        return pres.size() - 1;
    }

    public int category(int objects) {
        argument(objects >= 1 && objects <= 4);
        return add(new Cat(objects));
    }

    public int arrow(int category, int from, int to) {
        Cat c = cat(category);
        index(from, c.objects);
        index(to, c.objects);
        supported(!c.fixed);
        state(c.ends.size() < 12);
        c.ends.add(new int[] {from, to});
        return c.ends.size() - 1;
    }

    public int compose(int category, int second, int first, int composite) {
        Cat c = cat(category);
        index(second, c.ends.size());
        index(first, c.ends.size());
        index(composite, c.ends.size());
        supported(!c.fixed && second >= c.objects && first >= c.objects && c.meet(second, first));
        int before = c.told[second][first];
        c.told[second][first] = composite;
        return before;
    }

    public int arrows(int category) {
        return cat(category).ends.size();
    }

    public int composite(int category, int second, int first) {
        Cat c = cat(category);
        index(second, c.ends.size());
        index(first, c.ends.size());
        supported(c.meet(second, first));
        if (c.then(second, first) == UNTOLD) {
            throw new NoSuchElementException();
        }
        return c.then(second, first);
    }

    public boolean isWhole(int category) {
        return cat(category).whole();
    }

    public int opposite(int category) {
        Cat c = cat(category);
        supported(c.whole());
        Cat made = new Cat(c.objects);
        for (int f = c.objects; f < c.ends.size(); f++) {
            made.ends.add(new int[] {c.to(f), c.from(f)});
        }
        for (int f = 0; f < 12; f++) {
            for (int g = 0; g < 12; g++) {
                made.told[f][g] = c.told[g][f];
            }
        }
        int number = add(made);
        c.fixed = true;
        return number;
    }

    public int times(int category, int other) {
        Cat a = cat(category);
        Cat b = cat(other);
        supported(a.whole() && b.whole());
        supported(a.objects * b.objects <= 4 && a.ends.size() * b.ends.size() <= 12);
        Cat made = new Cat(a.objects * b.objects);
        int[][] number = new int[12][12];
        List<int[]> pairs = new ArrayList<>();
        for (int f = 0; f < a.objects; f++) {
            for (int g = 0; g < b.objects; g++) {
                number[f][g] = pairs.size();
                pairs.add(new int[] {f, g});
            }
        }
        for (int f = 0; f < a.ends.size(); f++) {
            for (int g = 0; g < b.ends.size(); g++) {
                if (f >= a.objects || g >= b.objects) {
                    number[f][g] = pairs.size();
                    pairs.add(new int[] {f, g});
                    made.ends.add(new int[] {number[a.from(f)][b.from(g)], number[a.to(f)][b.to(g)]});
                }
            }
        }
        for (int f = made.objects; f < pairs.size(); f++) {
            for (int g = made.objects; g < pairs.size(); g++) {
                if (made.meet(f, g)) {
                    made.told[f][g] = number[a.then(pairs.get(f)[0], pairs.get(g)[0])]
                        [b.then(pairs.get(f)[1], pairs.get(g)[1])];
                }
            }
        }
        int added = add(made);
        a.fixed = true;
        b.fixed = true;
        return added;
    }

    public int inverses(int category) {
        Cat c = cat(category);
        supported(c.whole());
        int count = 0;
        for (int f = 0; f < c.ends.size(); f++) {
            boolean has = false;
            for (int g = 0; g < c.ends.size(); g++) {
                has |= c.meet(f, g) && c.meet(g, f) && c.then(f, g) == c.to(f) && c.then(g, f) == c.from(f);
            }
            count += has ? 1 : 0;
        }
        return count;
    }

    public int presheaf(int category) {
        Cat c = cat(category);
        supported(c.whole());
        return add(new Pre(c, new int[4]));
    }

    public int element(int presheaf, int object) {
        Pre p = pre(presheaf);
        index(object, p.cat.objects);
        state(p.sizes[object] < 4);
        return p.sizes[object]++;
    }

    public int act(int presheaf, int arrow, int element, int image) {
        Pre p = pre(presheaf);
        index(arrow, p.cat.ends.size());
        index(element, p.sizes[p.cat.to(arrow)]);
        index(image, p.sizes[p.cat.from(arrow)]);
        supported(arrow >= p.cat.objects);
        int before = p.acts[arrow][element];
        p.acts[arrow][element] = image;
        return before;
    }

    public int size(int presheaf, int object) {
        Pre p = pre(presheaf);
        index(object, p.cat.objects);
        return p.sizes[object];
    }

    public int image(int presheaf, int arrow, int element) {
        Pre p = pre(presheaf);
        index(arrow, p.cat.ends.size());
        index(element, p.sizes[p.cat.to(arrow)]);
        if (p.act(arrow, element) == UNTOLD) {
            throw new NoSuchElementException();
        }
        return p.act(arrow, element);
    }

    public boolean isPresheaf(int presheaf) {
        return pre(presheaf).whole();
    }

    public int drop() {
        state(!pres.isEmpty());
        pres.remove(pres.size() - 1);
        return pres.size();
    }

    /** Arrows to an object, as lists by where they come from, and the presheaf of them, of any size. */
    private static List<List<Integer>> arrowsTo(Cat c, int object) {
        List<List<Integer>> found = new ArrayList<>();
        for (int b = 0; b < c.objects; b++) {
            found.add(new ArrayList<>());
        }
        for (int f = 0; f < c.ends.size(); f++) {
            if (c.to(f) == object) {
                found.get(c.from(f)).add(f);
            }
        }
        return found;
    }

    private static Pre yoneda(Cat c, int object) {
        List<List<Integer>> to = arrowsTo(c, object);
        int[] sizes = new int[4];
        for (int b = 0; b < c.objects; b++) {
            sizes[b] = to.get(b).size();
        }
        Pre made = new Pre(c, sizes);
        for (int f = 0; f < c.ends.size(); f++) {
            for (int x = 0; x < sizes[c.to(f)]; x++) {
                made.acts[f][x] = to.get(c.from(f)).indexOf(c.then(to.get(c.to(f)).get(x), f));
            }
        }
        return made;
    }

    public int represent(int category, int object) {
        Cat c = cat(category);
        index(object, c.objects);
        supported(c.whole());
        return add(yoneda(c, object));
    }

    public int truth(int category) {
        Cat c = cat(category);
        supported(c.whole());
        List<List<Integer>> all = new ArrayList<>();
        int[] sizes = new int[4];
        for (int o = 0; o < c.objects; o++) {
            all.add(c.allSieves(o));
            sizes[o] = all.get(o).size();
        }
        Pre made = new Pre(c, sizes);
        for (int f = 0; f < c.ends.size(); f++) {
            for (int x = 0; x < sizes[c.to(f)]; x++) {
                made.acts[f][x] = all.get(c.from(f)).indexOf(c.pull(all.get(c.to(f)).get(x), f));
            }
        }
        return add(made);
    }

    private static Pre product(Pre x, Pre y) {
        int[] sizes = new int[4];
        for (int o = 0; o < x.cat.objects; o++) {
            sizes[o] = x.sizes[o] * y.sizes[o];
        }
        Pre made = new Pre(x.cat, sizes);
        for (int f = 0; f < x.cat.ends.size(); f++) {
            int to = x.cat.to(f);
            for (int i = 0; i < x.sizes[to]; i++) {
                for (int j = 0; j < y.sizes[to]; j++) {
                    made.acts[f][i * y.sizes[to] + j] =
                        x.act(f, i) * y.sizes[x.cat.from(f)] + y.act(f, j);
                }
            }
        }
        return made;
    }

    private static Pre sum(Pre x, Pre y) {
        int[] sizes = new int[4];
        for (int o = 0; o < x.cat.objects; o++) {
            sizes[o] = x.sizes[o] + y.sizes[o];
        }
        Pre made = new Pre(x.cat, sizes);
        for (int f = 0; f < x.cat.ends.size(); f++) {
            int to = x.cat.to(f);
            for (int i = 0; i < sizes[to]; i++) {
                made.acts[f][i] = i < x.sizes[to] ? x.act(f, i)
                    : x.sizes[x.cat.from(f)] + y.act(f, i - x.sizes[to]);
            }
        }
        return made;
    }

    /** The first maps in their order, one more than the limit at most, each as the row of its values by places. */
    static List<int[]> maps(Pre x, Pre y, int limit) {
        List<int[]> found = new ArrayList<>();
        extend(x, y, x.places(), new int[x.places().size()], 0, limit, found);
        return found;
    }

    private static void extend(Pre x, Pre y, List<int[]> places, int[] row, int next, int limit, List<int[]> found) {
        if (found.size() > limit) {
            return;
        }
        if (next == places.size()) {
            found.add(row.clone());
            return;
        }
        for (int value = 0; value < y.sizes[places.get(next)[0]]; value++) {
            row[next] = value;
            if (fits(x, y, places, row, next)) {
                extend(x, y, places, row, next + 1, limit, found);
            }
        }
    }

    private static boolean fits(Pre x, Pre y, List<int[]> places, int[] row, int next) {
        for (int p = 0; p <= next; p++) {
            for (int f = 0; f < x.cat.ends.size(); f++) {
                if (x.cat.to(f) == places.get(p)[0]) {
                    int q = x.place(x.cat.from(f), x.act(f, places.get(p)[1]));
                    if (q <= next && (p == next || q == next) && row[q] != y.act(f, row[p])) {
                        return false;
                    }
                }
            }
        }
        return true;
    }

    private static int indexOf(List<int[]> rows, int[] row) {
        for (int i = 0; i < rows.size(); i++) {
            if (Arrays.equals(rows.get(i), row)) {
                return i;
            }
        }
        return -1;
    }

    private Pre power(Pre x, Pre y) {
        Cat c = x.cat;
        List<Pre> pairs = new ArrayList<>();
        for (int d = 0; d < c.objects; d++) {
            pairs.add(product(yoneda(c, d), x));
            for (int b = 0; b < c.objects; b++) {
                supported(pairs.get(d).sizes[b] <= 16);
            }
        }
        List<List<int[]>> all = new ArrayList<>();
        int[] sizes = new int[4];
        for (int d = 0; d < c.objects; d++) {
            all.add(maps(pairs.get(d), y, 4));
            sizes[d] = all.get(d).size();
            supported(sizes[d] <= 4);
        }
        Pre made = new Pre(c, sizes);
        for (int v = 0; v < c.ends.size(); v++) {
            List<List<Integer>> low = arrowsTo(c, c.from(v));
            List<List<Integer>> high = arrowsTo(c, c.to(v));
            Pre lowPairs = pairs.get(c.from(v));
            Pre highPairs = pairs.get(c.to(v));
            for (int m = 0; m < sizes[c.to(v)]; m++) {
                int[] row = new int[lowPairs.places().size()];
                for (int b = 0; b < c.objects; b++) {
                    for (int g = 0; g < low.get(b).size(); g++) {
                        for (int e = 0; e < x.sizes[b]; e++) {
                            int behind = high.get(b).indexOf(c.then(v, low.get(b).get(g)));
                            row[lowPairs.place(b, g * x.sizes[b] + e)] =
                                all.get(c.to(v)).get(m)[highPairs.place(b, behind * x.sizes[b] + e)];
                        }
                    }
                }
                made.acts[v][m] = indexOf(all.get(c.from(v)), row);
            }
        }
        return made;
    }

    public int combine(int presheaf, int other, char kind) {
        Pre x = pre(presheaf);
        Pre y = pre(other);
        argument(kind == 'x' || kind == '+' || kind == '^');
        supported(x.whole() && y.whole() && x.cat == y.cat);
        return add(kind == 'x' ? product(x, y) : kind == '+' ? sum(x, y) : power(x, y));
    }

    private List<int[]> someMaps(Pre x, Pre y) {
        supported(x.whole() && y.whole() && x.cat == y.cat);
        List<int[]> found = maps(x, y, 5000);
        supported(found.size() <= 5000);
        return found;
    }

    public int maps(int presheaf, int other) {
        Pre x = pre(presheaf);
        Pre y = pre(other);
        return someMaps(x, y).size();
    }

    public int mapped(int presheaf, int other, int index, int place) {
        Pre x = pre(presheaf);
        Pre y = pre(other);
        index(place, x.places().size());
        List<int[]> found = someMaps(x, y);
        if (index < 0 || index >= found.size()) {
            throw new NoSuchElementException();
        }
        return found.get(index)[place];
    }

    public boolean areAlike(int presheaf, int other) {
        Pre x = pre(presheaf);
        Pre y = pre(other);
        List<int[]> there = someMaps(x, y);
        boolean sameSizes = true;
        for (int o = 0; o < x.cat.objects; o++) {
            sameSizes &= x.sizes[o] == y.sizes[o];
        }
        if (!sameSizes) {
            return false;
        }
        for (int[] map : there) {
            TreeSet<Integer> hit = new TreeSet<>();
            for (int p = 0; p < map.length; p++) {
                hit.add(y.place(x.places().get(p)[0], map[p]));
            }
            if (hit.size() == y.places().size()) {
                return true;
            }
        }
        return false;
    }

    public int sections(int presheaf) {
        Pre p = pre(presheaf);
        supported(p.whole());
        int count = 0;
        for (int code = 0; code < 256; code++) {
            boolean each = true;
            for (int o = 0; o < 4; o++) {
                int x = code >> 2 * o & 3;
                each &= o < p.cat.objects ? x < p.sizes[o] : x == 0;
            }
            for (int f = 0; each && f < p.cat.ends.size(); f++) {
                each = p.act(f, code >> 2 * p.cat.to(f) & 3) == (code >> 2 * p.cat.from(f) & 3);
            }
            count += each ? 1 : 0;
        }
        return count;
    }

    public int parts(int presheaf) {
        Pre p = pre(presheaf);
        supported(p.whole());
        int count = 0;
        for (int set = 0; set < 1 << p.places().size(); set++) {
            count += p.part(set) ? 1 : 0;
        }
        return count;
    }

    public int join(int presheaf, int part, int other, char kind) {
        Pre p = pre(presheaf);
        supported(p.whole());
        argument(p.part(part) && p.part(other) && (kind == '&' || kind == '|' || kind == '>'));
        return kind == '&' ? part & other : kind == '|' ? part | other : p.implied(part, other);
    }

    public int least(int presheaf, int places) {
        Pre p = pre(presheaf);
        supported(p.whole());
        argument(places >= 0 && places < 1 << p.places().size());
        return p.leastPart(places);
    }

    public int truthOf(int presheaf, int part, int place) {
        Pre p = pre(presheaf);
        index(place, p.places().size());
        supported(p.whole());
        argument(p.part(part));
        return p.truth(part, place);
    }

    public boolean isBoolean(int presheaf) {
        Pre p = pre(presheaf);
        supported(p.whole());
        int all = (1 << p.places().size()) - 1;
        for (int set = 0; set <= all; set++) {
            if (p.part(set) && (set | p.implied(set, 0)) != all) {
                return false;
            }
        }
        return true;
    }

    public int sieves(int category, int object) {
        Cat c = cat(category);
        index(object, c.objects);
        supported(c.whole());
        return c.allSieves(object).size();
    }

    public int cover(int category, int object, int sieve) {
        Cat c = cat(category);
        index(object, c.objects);
        supported(c.whole());
        argument(c.sieve(object, sieve));
        c.covers.add(object * 4096 + sieve);
        c.fixed = true;
        return c.topology().get(object).size();
    }

    public int uncover(int category) {
        Cat c = cat(category);
        int before = c.covers.size();
        c.covers.clear();
        return before;
    }

    public boolean covers(int category, int object, int sieve) {
        Cat c = cat(category);
        index(object, c.objects);
        supported(c.whole());
        argument(c.sieve(object, sieve));
        return c.topology().get(object).contains(sieve);
    }

    public int leastCover(int category, int object) {
        Cat c = cat(category);
        index(object, c.objects);
        supported(c.whole());
        return c.least(object);
    }

    /** All families of a sieve, each as a row of elements by rising numbers of its arrows, in their order. */
    private static List<int[]> families(Pre p, int sieve, int limit) {
        List<Integer> members = members(p.cat, sieve);
        List<int[]> found = new ArrayList<>();
        extendFamily(p, members, new int[members.size()], 0, limit, found);
        return found;
    }

    private static List<Integer> members(Cat c, int sieve) {
        List<Integer> found = new ArrayList<>();
        for (int f = 0; f < c.ends.size(); f++) {
            if ((sieve >> f & 1) == 1) {
                found.add(f);
            }
        }
        return found;
    }

    private static void extendFamily(Pre p, List<Integer> members, int[] row, int next, int limit,
            List<int[]> found) {
        if (found.size() > limit) {
            return;
        }
        if (next == members.size()) {
            found.add(row.clone());
            return;
        }
        for (int value = 0; value < p.sizes[p.cat.from(members.get(next))]; value++) {
            row[next] = value;
            boolean each = true;
            for (int i = 0; i <= next; i++) {
                for (int g = 0; g < p.cat.ends.size(); g++) {
                    if (p.cat.meet(members.get(i), g)) {
                        int j = members.indexOf(p.cat.then(members.get(i), g));
                        each &= j > next || row[j] == p.act(g, row[i]);
                    }
                }
            }
            if (each) {
                extendFamily(p, members, row, next + 1, limit, found);
            }
        }
    }

    private static int[] familyOf(Pre p, int sieve, int element) {
        List<Integer> members = members(p.cat, sieve);
        int[] row = new int[members.size()];
        for (int i = 0; i < row.length; i++) {
            row[i] = p.act(members.get(i), element);
        }
        return row;
    }

    private static boolean separated(Pre p) {
        List<TreeSet<Integer>> covering = p.cat.topology();
        for (int o = 0; o < p.cat.objects; o++) {
            for (int s : covering.get(o)) {
                for (int x = 0; x < p.sizes[o]; x++) {
                    for (int y = 0; y < x; y++) {
                        if (Arrays.equals(familyOf(p, s, x), familyOf(p, s, y))) {
                            return false;
                        }
                    }
                }
            }
        }
        return true;
    }

    private static boolean sheaf(Pre p) {
        List<TreeSet<Integer>> covering = p.cat.topology();
        for (int o = 0; o < p.cat.objects; o++) {
            for (int s : covering.get(o)) {
                for (int[] family : families(p, s, 4)) {
                    int of = 0;
                    for (int x = 0; x < p.sizes[o]; x++) {
                        of += Arrays.equals(family, familyOf(p, s, x)) ? 1 : 0;
                    }
                    if (of != 1) {
                        return false;
                    }
                }
            }
        }
        return true;
    }

    public boolean isSeparated(int presheaf) {
        Pre p = pre(presheaf);
        supported(p.whole());
        return separated(p);
    }

    public boolean isSheaf(int presheaf) {
        Pre p = pre(presheaf);
        supported(p.whole());
        return sheaf(p);
    }

    public int plus(int presheaf) {
        Pre p = pre(presheaf);
        supported(p.whole());
        Cat c = p.cat;
        List<List<int[]>> all = new ArrayList<>();
        int[] sizes = new int[4];
        int[] least = new int[4];
        for (int o = 0; o < c.objects; o++) {
            least[o] = c.least(o);
            all.add(families(p, least[o], 4));
            sizes[o] = all.get(o).size();
        }
        Pre made = new Pre(c, sizes);
        supported(!made.tooBig());
        for (int f = 0; f < c.ends.size(); f++) {
            List<Integer> high = members(c, least[c.to(f)]);
            List<Integer> low = members(c, least[c.from(f)]);
            for (int m = 0; m < sizes[c.to(f)]; m++) {
                int[] row = new int[low.size()];
                for (int i = 0; i < row.length; i++) {
                    row[i] = all.get(c.to(f)).get(m)[high.indexOf(c.then(f, low.get(i)))];
                }
                made.acts[f][m] = indexOf(all.get(c.from(f)), row);
            }
        }
        return add(made);
    }

    public int functor(int category, int other) {
        Cat a = cat(category);
        Cat b = cat(other);
        supported(a.whole() && b.whole());
        state(funs.size() < 4);
        funs.add(new Fun(a, b));
        a.fixed = true;
        b.fixed = true;
        return funs.size() - 1;
    }

    public int sendObject(int functor, int object, int image) {
        Fun f = fun(functor);
        index(object, f.first.objects);
        index(image, f.second.objects);
        int before = f.objects[object];
        f.objects[object] = image;
        return before;
    }

    public int sendArrow(int functor, int arrow, int image) {
        Fun f = fun(functor);
        index(arrow, f.first.ends.size());
        index(image, f.second.ends.size());
        supported(arrow >= f.first.objects);
        int before = f.arrows[arrow];
        f.arrows[arrow] = image;
        return before;
    }

    public boolean isFunctor(int functor) {
        return fun(functor).whole();
    }

    private static Pre back(Fun f, Pre y) {
        int[] sizes = new int[4];
        for (int c = 0; c < f.first.objects; c++) {
            sizes[c] = y.sizes[f.objects[c]];
        }
        Pre made = new Pre(f.first, sizes);
        for (int a = 0; a < f.first.ends.size(); a++) {
            for (int x = 0; x < sizes[f.first.to(a)]; x++) {
                made.acts[a][x] = y.act(f.send(a), x);
            }
        }
        return made;
    }

    private static Pre left(Fun f, Pre x) {
        Cat d = f.second;
        List<int[]> pairs = new ArrayList<>();
        for (int c = 0; c < f.first.objects; c++) {
            for (int e = 0; e < x.sizes[c]; e++) {
                for (int u = 0; u < d.ends.size(); u++) {
                    if (d.to(u) == f.objects[c]) {
                        pairs.add(new int[] {c, e, u});
                    }
                }
            }
        }
        int[] label = new int[pairs.size()];
        for (int i = 0; i < label.length; i++) {
            label[i] = i;
        }
        boolean changes = true;
        while (changes) {
            changes = false;
            for (int a = 0; a < f.first.ends.size(); a++) {
                for (int e = 0; e < x.sizes[f.first.to(a)]; e++) {
                    for (int u = 0; u < d.ends.size(); u++) {
                        if (d.to(u) == f.objects[f.first.from(a)]) {
                            int i = indexOf(pairs, new int[] {f.first.to(a), e, d.then(f.send(a), u)});
                            int j = indexOf(pairs, new int[] {f.first.from(a), x.act(a, e), u});
                            changes |= label[i] != label[j];
                            label[i] = Math.min(label[i], label[j]);
                            label[j] = label[i];
                        }
                    }
                }
            }
        }
        int[] sizes = new int[4];
        int[] number = new int[pairs.size()];
        for (int i = 0; i < label.length; i++) {
            if (label[i] == i) {
                number[i] = sizes[d.from(pairs.get(i)[2])]++;
            }
        }
        Pre made = new Pre(d, sizes);
        for (int i = 0; i < label.length; i++) {
            for (int v = 0; v < d.ends.size(); v++) {
                int[] pair = pairs.get(i);
                if (d.meet(pair[2], v)) {
                    int j = indexOf(pairs, new int[] {pair[0], pair[1], d.then(pair[2], v)});
                    made.acts[v][number[label[i]]] = number[label[j]];
                }
            }
        }
        return made;
    }

    private Pre right(Fun f, Pre x) {
        Cat d = f.second;
        List<List<List<Integer>>> hom = new ArrayList<>();
        List<Pre> arrows = new ArrayList<>();
        List<List<int[]>> all = new ArrayList<>();
        int[] made = new int[4];
        for (int o = 0; o < d.objects; o++) {
            List<List<Integer>> to = arrowsTo(d, o);
            List<List<Integer>> by = new ArrayList<>();
            int[] sizes = new int[4];
            for (int c = 0; c < f.first.objects; c++) {
                by.add(to.get(f.objects[c]));
                sizes[c] = by.get(c).size();
            }
            Pre p = new Pre(f.first, sizes);
            for (int a = 0; a < f.first.ends.size(); a++) {
                for (int e = 0; e < sizes[f.first.to(a)]; e++) {
                    p.acts[a][e] = by.get(f.first.from(a)).indexOf(
                        d.then(by.get(f.first.to(a)).get(e), f.send(a)));
                }
            }
            hom.add(by);
            arrows.add(p);
            all.add(maps(p, x, 4));
            made[o] = all.get(o).size();
        }
        Pre result = new Pre(d, made);
        supported(!result.tooBig());
        for (int v = 0; v < d.ends.size(); v++) {
            Pre low = arrows.get(d.from(v));
            Pre high = arrows.get(d.to(v));
            for (int m = 0; m < made[d.to(v)]; m++) {
                int[] row = new int[low.places().size()];
                for (int c = 0; c < f.first.objects; c++) {
                    for (int e = 0; e < low.sizes[c]; e++) {
                        int behind = d.then(v, hom.get(d.from(v)).get(c).get(e));
                        row[low.place(c, e)] =
                            all.get(d.to(v)).get(m)[high.place(c, hom.get(d.to(v)).get(c).indexOf(behind))];
                    }
                }
                result.acts[v][m] = indexOf(all.get(d.from(v)), row);
            }
        }
        return result;
    }

    public int move(int functor, int presheaf, char way) {
        Fun f = fun(functor);
        Pre p = pre(presheaf);
        argument(way == 'b' || way == 'l' || way == 'r');
        supported(f.whole() && p.whole() && p.cat == (way == 'b' ? f.second : f.first));
        return add(way == 'b' ? back(f, p) : way == 'l' ? left(f, p) : right(f, p));
    }

    public float sheafShare() {
        int whole = 0;
        int sheaves = 0;
        for (Pre p : pres) {
            whole += p.whole() ? 1 : 0;
            sheaves += p.whole() && sheaf(p) ? 1 : 0;
        }
        if (whole == 0) {
            throw new ArithmeticException();
        }
        return (float) sheaves / (float) whole;
    }

    public double meanElements() {
        int sum = 0;
        for (Pre p : pres) {
            sum += p.places().size();
        }
        if (pres.isEmpty()) {
            throw new ArithmeticException();
        }
        return (double) sum / (double) pres.size();
    }

    public long checksum() {
        long sum = 7;
        for (Pre p : pres) {
            for (int o = 0; o < p.cat.objects; o++) {
                sum = sum * 31 + p.sizes[o];
            }
            for (int f = 0; f < p.cat.ends.size(); f++) {
                for (int x = 0; x < p.sizes[p.cat.to(f)]; x++) {
                    sum = sum * 31 + p.act(f, x);
                }
            }
        }
        return sum;
    }

    public boolean isSound() {
        for (Pre p : pres) {
            for (int o = 0; p.whole() && o < p.cat.objects; o++) {
                Pre y = yoneda(p.cat, o);
                if (!y.tooBig() && maps(y, p, 5000).size() != p.sizes[o]) {
                    return false;
                }
            }
            int places = p.whole() ? p.places().size() : 0;
            for (int j = 0; j < places; j++) {
                int least = p.leastPart(1 << j);
                for (int i = 0; i < places; i++) {
                    if (!p.cat.sieve(p.places().get(i)[0], p.truth(least, i))) {
                        return false;
                    }
                }
            }
        }
        return true;
    }
}
