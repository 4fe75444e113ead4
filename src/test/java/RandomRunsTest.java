import java.util.ArrayList;
import java.util.Arrays;
import java.util.Collections;
import java.util.HashMap;
import java.util.List;
import java.util.Map;
import java.util.Random;
import java.util.TreeMap;

/** Random runs, the same ones each time, on the house and on the slow one. */
public final class RandomRunsTest {
    private static final int CALLS = 500;

    private final Random random;
    private final Twin twin = new Twin();

    private RandomRunsTest(long seed) {
        random = new Random(seed);
    }

    private int upTo(int bound) {
        return bound <= 0 ? 0 : random.nextInt(bound);
    }

    private boolean oneIn(int count) {
        return random.nextInt(count) == 0;
    }

    // ---- categories of functions between small sets

    private static int[] behind(int[] second, int[] first) {
        int[] row = first.clone();
        row[1] = second[1];
        for (int i = 2; i < row.length; i++) {
            row[i] = second[2 + first[i]];
        }
        return row;
    }

    /** Arrows are rows: from, to, values. */
    private List<int[]> functions(int objects) {
        int[] sizes = new int[objects];
        List<int[]> arrows = new ArrayList<>();
        for (int o = 0; o < objects; o++) {
            sizes[o] = 1 + upTo(3);
            int[] row = new int[2 + sizes[o]];
            row[0] = o;
            row[1] = o;
            for (int i = 0; i < sizes[o]; i++) {
                row[2 + i] = i;
            }
            arrows.add(row);
        }
        int count = upTo(6);
        for (int i = 0; i < count; i++) {
            int from = upTo(objects);
            int to = oneIn(2) ? upTo(objects) : Math.min(objects - 1, from + 1);
            int[] row = new int[2 + sizes[from]];
            row[0] = from;
            row[1] = to;
            for (int j = 2; j < row.length; j++) {
                row[j] = upTo(sizes[to]);
            }
            List<int[]> closed = closed(arrows, row);
            arrows = closed.size() <= 12 ? closed : arrows;
        }
        List<int[]> rest = new ArrayList<>(arrows.subList(objects, arrows.size()));
        Collections.shuffle(rest, random);
        List<int[]> all = new ArrayList<>(arrows.subList(0, objects));
        all.addAll(rest);
        return all;
    }

    private static int indexOf(List<int[]> rows, int[] row) {
        for (int i = 0; i < rows.size(); i++) {
            if (Arrays.equals(rows.get(i), row)) {
                return i;
            }
        }
        return -1;
    }

    private static List<int[]> closed(List<int[]> arrows, int[] more) {
        List<int[]> all = new ArrayList<>(arrows);
        if (indexOf(all, more) < 0) {
            all.add(more);
        }
        for (int i = 0; i < all.size() && all.size() <= 12; i++) {
            for (int j = 0; j < all.size() && all.size() <= 12; j++) {
                addBehind(all, all.get(i), all.get(j));
                addBehind(all, all.get(j), all.get(i));
            }
        }
        return all;
    }

    private static void addBehind(List<int[]> all, int[] second, int[] first) {
        if (first[1] == second[0] && indexOf(all, behind(second, first)) < 0) {
            all.add(behind(second, first));
        }
    }

    private void makeCategory() {
        int objects = 1 + upTo(4);
        List<int[]> arrows = functions(objects);
        int category = twin.number("category", objects);
        if (category < 0) {
            return;
        }
        for (int f = objects; f < arrows.size(); f++) {
            twin.call("arrow", category, arrows.get(f)[0], arrows.get(f)[1]);
        }
        for (int g = objects; g < arrows.size(); g++) {
            for (int f = objects; f < arrows.size(); f++) {
                if (arrows.get(f)[1] == arrows.get(g)[0] && !oneIn(400)) {
                    int both = indexOf(arrows, behind(arrows.get(g), arrows.get(f)));
                    twin.call("compose", category, g, f, oneIn(400) ? upTo(arrows.size()) : both);
                }
            }
        }
    }

    // ---- presheaves by generators, with some elements made one

    private void makePresheaf() {
        if (twin.slow.cats.isEmpty()) {
            return;
        }
        int number = upTo(twin.slow.cats.size());
        SlowHouse.Cat cat = twin.slow.cats.get(number);
        if (!cat.whole()) {
            return;
        }
        List<int[]> elements = new ArrayList<>();
        int generators = upTo(4) + (oneIn(3) ? 2 : 0);
        for (int i = 0; i < generators; i++) {
            int object = upTo(cat.objects);
            for (int f = 0; f < cat.ends.size(); f++) {
                if (cat.to(f) == object) {
                    elements.add(new int[] {i, f, cat.from(f)});
                }
            }
        }
        int[] label = new int[elements.size()];
        for (int i = 0; i < label.length; i++) {
            label[i] = i;
        }
        int wanted = upTo(4);
        for (int i = 0; i < 60; i++) {
            Map<Integer, List<Integer>> classes = classes(cat, elements, label, i < wanted);
            if (!classes.isEmpty()) {
                List<Integer> keys = new ArrayList<>(classes.keySet());
                List<Integer> chosen = classes.get(keys.get(upTo(keys.size())));
                Collections.shuffle(chosen, random);
                makeOne(cat, elements, label, chosen.get(0), chosen.get(1));
            }
        }
        tellPresheaf(number, cat, elements, label);
    }

    /** The labels at each object with at least two of them, or with more than four. */
    private static Map<Integer, List<Integer>> classes(SlowHouse.Cat cat, List<int[]> elements, int[] label,
            boolean any) {
        Map<Integer, List<Integer>> found = new TreeMap<>();
        for (int o = 0; o < cat.objects; o++) {
            List<Integer> here = new ArrayList<>();
            for (int i = 0; i < label.length; i++) {
                if (label[i] == i && elements.get(i)[2] == o) {
                    here.add(i);
                }
            }
            if (here.size() > (any ? 1 : 4)) {
                found.put(o, here);
            }
        }
        return found;
    }

    private static void makeOne(SlowHouse.Cat cat, List<int[]> elements, int[] label, int one, int other) {
        if (label[one] == label[other]) {
            return;
        }
        int low = Math.min(label[one], label[other]);
        int high = Math.max(label[one], label[other]);
        for (int i = 0; i < label.length; i++) {
            label[i] = label[i] == high ? low : label[i];
        }
        boolean changes = true;
        while (changes) {
            changes = false;
            for (int i = 0; i < label.length; i++) {
                for (int f = 0; f < cat.ends.size(); f++) {
                    if (cat.to(f) == elements.get(i)[2]) {
                        int a = label[acted(cat, elements, i, f)];
                        int b = label[acted(cat, elements, label[i], f)];
                        for (int j = 0; a != b && j < label.length; j++) {
                            label[j] = label[j] == Math.max(a, b) ? Math.min(a, b) : label[j];
                            changes = true;
                        }
                    }
                }
            }
        }
    }

    private static int acted(SlowHouse.Cat cat, List<int[]> elements, int element, int f) {
        int[] row = elements.get(element);
        return indexOf(elements, new int[] {row[0], cat.then(row[1], f), cat.from(f)});
    }

    private void tellPresheaf(int number, SlowHouse.Cat cat, List<int[]> elements, int[] label) {
        int presheaf = twin.number("presheaf", number);
        if (presheaf < 0) {
            return;
        }
        Map<Integer, Integer> told = new HashMap<>();
        List<Integer> order = new ArrayList<>();
        for (int i = 0; i < label.length; i++) {
            if (label[i] == i) {
                order.add(i);
            }
        }
        Collections.shuffle(order, random);
        for (int i : order) {
            told.put(i, twin.number("element", presheaf, elements.get(i)[2]));
        }
        for (int i : order) {
            for (int f = cat.objects; f < cat.ends.size(); f++) {
                if (cat.to(f) == elements.get(i)[2] && !oneIn(300)) {
                    int image = label[acted(cat, elements, i, f)];
                    twin.call("act", presheaf, f, told.get(i), oneIn(300) ? upTo(4) : told.get(image));
                }
            }
        }
    }

    // ---- functors by tries

    private void makeFunctor() {
        if (twin.slow.cats.isEmpty()) {
            return;
        }
        int first = upTo(twin.slow.cats.size());
        int second = upTo(twin.slow.cats.size());
        int functor = twin.number("functor", first, second);
        if (functor >= 0) {
            tellFunctor(functor);
        }
    }

    private void tellFunctor(int functor) {
        SlowHouse.Fun fun = twin.slow.funs.get(functor);
        SlowHouse.Fun found = new SlowHouse.Fun(fun.first, fun.second);
        for (int i = 0; i < 3000 && !found.whole(); i++) {
            for (int o = 0; o < fun.first.objects; o++) {
                found.objects[o] = upTo(fun.second.objects);
            }
            for (int f = fun.first.objects; f < fun.first.ends.size(); f++) {
                List<Integer> fits = new ArrayList<>();
                for (int g = 0; g < fun.second.ends.size(); g++) {
                    if (fun.second.from(g) == found.objects[fun.first.from(f)]
                            && fun.second.to(g) == found.objects[fun.first.to(f)]) {
                        fits.add(g);
                    }
                }
                found.arrows[f] = fits.isEmpty() ? upTo(fun.second.ends.size()) : fits.get(upTo(fits.size()));
            }
        }
        for (int o = 0; o < fun.first.objects; o++) {
            twin.call("sendObject", functor, o, found.objects[o]);
        }
        for (int f = fun.first.objects; f < fun.first.ends.size(); f++) {
            twin.call("sendArrow", functor, f, found.arrows[f]);
        }
    }

    // ---- calls with arguments that mostly exist

    private int among(int count) {
        return oneIn(40) ? upTo(count + 4) - 2 : upTo(count);
    }

    private int category() {
        return among(twin.slow.cats.size());
    }

    private int presheaf() {
        return among(twin.slow.pres.size());
    }

    private int functor() {
        return among(twin.slow.funs.size());
    }

    private SlowHouse.Cat cat(int number) {
        return number >= 0 && number < twin.slow.cats.size() ? twin.slow.cats.get(number) : new SlowHouse.Cat(1);
    }

    private SlowHouse.Pre pre(int number) {
        return number >= 0 && number < twin.slow.pres.size() ? twin.slow.pres.get(number)
            : new SlowHouse.Pre(new SlowHouse.Cat(1), new int[4]);
    }

    private char kind(String kinds) {
        return oneIn(30) ? (char) upTo(256) : kinds.charAt(upTo(kinds.length()));
    }

    /** Another presheaf of the same category, mostly. */
    private int alike(int number) {
        List<Integer> found = new ArrayList<>();
        for (int i = 0; i < twin.slow.pres.size(); i++) {
            if (twin.slow.pres.get(i).cat == pre(number).cat) {
                found.add(i);
            }
        }
        return found.isEmpty() || oneIn(20) ? presheaf() : found.get(upTo(found.size()));
    }

    private int part(SlowHouse.Pre of) {
        int places = of.places().size();
        if (oneIn(20) || !of.whole()) {
            return oneIn(3) ? random.nextInt() : upTo(1 << places);
        }
        return of.leastPart(upTo(1 << places) & upTo(1 << places));
    }

    private int sieve(SlowHouse.Cat of, int object) {
        if (oneIn(20) || object < 0 || object >= of.objects || !of.whole()) {
            return oneIn(3) ? random.nextInt() : upTo(1 << of.ends.size());
        }
        List<Integer> all = of.allSieves(object);
        return all.get(upTo(all.size()));
    }

    private void callOne(String name) {
        int c = category();
        int p = presheaf();
        int f = functor();
        SlowHouse.Cat cat = cat(c);
        SlowHouse.Pre pre = pre(p);
        int arrows = cat.ends.size();
        switch (name) {
            case "category" -> twin.call(name, upTo(6));
            case "arrow" -> twin.call(name, c, among(cat.objects), among(cat.objects));
            case "compose" -> twin.call(name, c, among(arrows), among(arrows), among(arrows));
            case "composite" -> twin.call(name, c, among(arrows), among(arrows));
            case "times" -> twin.call(name, c, category());
            case "functor" -> makeFunctor();
            case "represent", "sieves", "leastCover" -> twin.call(name, c, among(cat.objects));
            case "cover", "covers" -> {
                int object = among(cat.objects);
                twin.call(name, c, object, sieve(cat, object));
            }
            case "arrows", "isWhole", "opposite", "inverses", "presheaf", "truth", "uncover" -> twin.call(name, c);
            case "sendObject" -> twin.call(name, f, upTo(4), upTo(4));
            case "sendArrow" -> twin.call(name, f, upTo(12), upTo(12));
            case "isFunctor" -> twin.call(name, f);
            case "move" -> callMove(f, p);
            default -> callOnPresheaf(name, p, pre);
        }
    }

    private void callOnPresheaf(String name, int p, SlowHouse.Pre pre) {
        int arrow = among(pre.cat.ends.size());
        boolean known = arrow >= 0 && arrow < pre.cat.ends.size();
        int high = known ? pre.sizes[pre.cat.to(arrow)] : 1;
        int low = known ? pre.sizes[pre.cat.from(arrow)] : 1;
        int places = pre.places().size();
        switch (name) {
            case "element", "size" -> twin.call(name, p, among(pre.cat.objects));
            case "act" -> twin.call(name, p, arrow, among(high), among(low));
            case "image" -> twin.call(name, p, arrow, among(high));
            case "combine" -> twin.call(name, p, alike(p), kind("x+^"));
            case "maps", "areAlike" -> twin.call(name, p, alike(p));
            case "mapped" -> callMapped(p, alike(p), among(places));
            case "join" -> twin.call(name, p, part(pre), part(pre), kind("&|>"));
            case "least" -> twin.call(name, p, oneIn(10) ? random.nextInt() : upTo(1 << places));
            case "truthOf" -> twin.call(name, p, part(pre), among(places));
            case "isPresheaf", "sections", "parts", "isBoolean", "isSeparated", "isSheaf", "plus" ->
                twin.call(name, p);
            default -> twin.call(name);
        }
    }

    private void callMapped(int p, int other, int place) {
        int count = twin.number("maps", p, other);
        twin.call("mapped", p, other, oneIn(8) ? upTo(8) - 1 : upTo(count + (oneIn(8) ? 1 : 0)), place);
    }

    private void callMove(int f, int p) {
        char way = kind("blr");
        int chosen = p;
        for (int i = 0; i < twin.slow.pres.size() && f >= 0 && f < twin.slow.funs.size(); i++) {
            SlowHouse.Fun fun = twin.slow.funs.get(f);
            boolean fits = twin.slow.pres.get(i).cat == (way == 'b' ? fun.second : fun.first);
            chosen = fits && !oneIn(4) ? i : chosen;
        }
        twin.call("move", f, chosen, way);
    }

    /** Any arguments at all, few of which exist. */
    private void callWildly(String name) {
        Class<?>[] types = Twin.types(name);
        Object[] arguments = new Object[types.length];
        for (int i = 0; i < types.length; i++) {
            int small = upTo(20) - 3;
            int wild = oneIn(3) ? random.nextInt() : oneIn(2) ? Integer.MIN_VALUE + upTo(3) : Integer.MAX_VALUE - upTo(3);
            arguments[i] = types[i] == char.class ? (Object) (char) upTo(65536) : (Object) (oneIn(4) ? wild : small);
        }
        twin.call(name, arguments);
    }

    private static final String[] RARE = {"element", "act", "drop", "sendObject", "sendArrow", "uncover", "category",
        "arrow", "compose"};

    private void run() {
        List<String> names = new ArrayList<>();
        Twin.names().forEach(names::add);
        makeCategory();
        makePresheaf();
        int makes = 3 + upTo(12);
        while (twin.calls.size() < CALLS && twin.difference == null) {
            if (oneIn(makes)) {
                switch (upTo(8)) {
                    case 0, 1 -> makeCategory();
                    case 2, 3, 4 -> makePresheaf();
                    case 5 -> makeFunctor();
                    default -> {
                        for (int i = upTo(6); i > 0 && twin.slow.pres.size() > 7; i--) {
                            twin.call("drop");
                        }
                    }
                }
            }
            String name = names.get(upTo(names.size()));
            if (oneIn(20)) {
                callWildly(name);
            } else if (!Arrays.asList(RARE).contains(name) || oneIn(12)) {
                callOne(name);
            }
        }
    }

    private static long seconds(long since) {
        return (System.nanoTime() - since) / 1_000_000_000L;
    }

    public static void main(String[] args) {
        long first = args.length > 1 ? Long.parseLong(args[1]) : 1;
        long last = args.length > 2 ? Long.parseLong(args[2]) : 90;
        int wrong = 0;
        long since = System.nanoTime();
        Map<String, Integer> tally = new TreeMap<>();
        for (long seed = first; seed <= last && wrong < 5; seed++) {
            RandomRunsTest test = new RandomRunsTest(seed);
            test.run();
            if (test.twin.difference != null) {
                wrong++;
                System.out.println("seed " + seed + ": " + test.twin.difference);
                if (args.length > 3) {
                    test.twin.calls.forEach(System.out::println);
                }
            }
            for (Map.Entry<String, Integer> entry : test.twin.tally.entrySet()) {
                tally.merge(entry.getKey(), entry.getValue(), Integer::sum);
            }
        }
        if (args.length > 2) {
            tally.forEach((key, count) -> System.out.println(key + " " + count));
            System.out.println(seconds(since) + " s");
        }
        System.out.println(wrong == 0 ? "all runs are as due" : wrong + " runs are not as due");
        if (wrong != 0) {
            System.exit(1);
        }
    }
}
