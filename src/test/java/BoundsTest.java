import java.math.BigInteger;

/** What just fits, and what is too much by as little as can be, of all that has a bound; and what goes round. */
public final class BoundsTest {
    private BoundsTest() {
    }

    private static void addsOrNot(boolean fits, Script s, int number, String name, Object... arguments) {
        if (fits) {
            s.due(number, name, arguments);
            s.due(true, "isPresheaf", number);
            s.due(number, "drop");
        } else {
            s.refused(Script.UNSUPPORTED, name, arguments);
        }
    }

    // ---- "a set would have more than 4 elements"

    /** Rows tell how many arrows go from 0, from 1 and from 2 to 2, and whether they fit. */
    private static void represented() {
        int[][] rows = {{4, 0, 0, 1}, {5, 0, 0, 0}, {0, 4, 0, 1}, {0, 5, 0, 0}, {4, 4, 0, 1}, {4, 5, 0, 0}, {5, 4, 0, 0}};
        for (int[] row : rows) {
            Script s = new Script("arrows that are represented, " + java.util.Arrays.toString(row));
            s.call("category", 3);
            for (int from = 0; from < 3; from++) {
                for (int i = 0; i < row[from]; i++) {
                    s.call("arrow", 0, from, 2);
                }
            }
            addsOrNot(row[3] == 1, s, 0, "represent", 0, 2);
            addsOrNot(true, s, 0, "represent", 0, 0);
            addsOrNot(true, s, 0, "represent", 0, 1);
        }
        for (int others = 2; others < 5; others++) {
            Script s = new Script("arrows that are represented, and " + others + " constants");
            s.constants(others);
            addsOrNot(others < 4, s, 0, "represent", 0, 0);
        }
    }

    /** At the end of a chain of four there are five sieves, so that three objects in a row are the most. */
    private static void truths() {
        Script s = new Script("sieves as elements");
        s.chain();
        s.due(4, "sieves", 0, 2);
        addsOrNot(true, s, 0, "truth", 0);
        s.constants(2);
        s.due(5, "sieves", 1, 0);
        addsOrNot(false, s, 0, "truth", 1);
        s.constants(1);
        s.due(3, "sieves", 2, 0);
        addsOrNot(true, s, 0, "truth", 2);
        for (int last = 0; last < 2; last++) {
            Script t = new Script("two arrows side by side, to " + last);
            t.call("category", 2);
            t.call("arrow", 0, 1 - last, last);
            t.due(3, "sieves", 0, last);
            t.call("arrow", 0, 1 - last, last);
            t.due(5, "sieves", 0, last);
            addsOrNot(false, t, 0, "truth", 0);
        }
        fourInARow();
    }

    private static void fourInARow() {
        Script s = new Script("four in a row");
        s.call("category", 4);
        int[][] ends = {{0, 1}, {1, 2}, {2, 3}, {0, 2}, {1, 3}, {0, 3}};
        for (int[] row : ends) {
            s.call("arrow", 0, row[0], row[1]);
        }
        s.call("compose", 0, 5, 4, 7);
        s.call("compose", 0, 6, 5, 8);
        s.call("compose", 0, 6, 7, 9);
        s.call("compose", 0, 8, 4, 9);
        for (int object = 0; object < 4; object++) {
            s.due(2 + object, "sieves", 0, object);
        }
        addsOrNot(false, s, 0, "truth", 0);
        s.due(1, "opposite", 0);
        s.due(5, "sieves", 1, 0);
        addsOrNot(false, s, 0, "truth", 1);
    }

    /** All sizes, once at the first of two objects and once at the last one. */
    private static void pairsAndSums() {
        for (int object = 0; object < 2; object++) {
            Script s = new Script("pairs and sums at " + object);
            s.call("category", 2);
            for (int size = 0; size < 5; size++) {
                s.sets(0, object == 0 ? size : 1, object == 0 ? 1 : size);
            }
            for (int left = 0; left < 5; left++) {
                for (int right = 0; right < 5; right++) {
                    addsOrNot(left * right <= 4, s, 5, "combine", left, right, 'x');
                    addsOrNot(left + right <= 4, s, 5, "combine", left, right, '+');
                }
            }
        }
    }

    private static void powersOfSets() {
        Script s = new Script("powers of sets");
        s.call("category", 1);
        for (int size = 0; size < 5; size++) {
            s.sets(0, size);
        }
        for (int left = 0; left < 5; left++) {
            for (int right = 0; right < 5; right++) {
                int power = 1;
                for (int i = 0; i < left; i++) {
                    power *= right;
                }
                addsOrNot(power <= 4, s, 5, "combine", left, right, '^');
            }
        }
        // Two elements over one: four maps to what is over 0, and one more to what is over 1.
        Script t = new Script("powers over an arrow");
        t.arrow();
        t.sets(0, 1, 2);
        t.acts(0, 2, 0, 0);
        t.sets(0, 2, 2);
        t.acts(1, 2, 0, 0);
        t.sets(0, 2, 3);
        t.acts(2, 2, 0, 0, 1);
        t.due(4, "maps", 0, 1);
        t.due(5, "maps", 0, 2);
        addsOrNot(true, t, 3, "combine", 0, 1, '^');
        addsOrNot(false, t, 3, "combine", 0, 2, '^');
    }

    /** "pairs, however many the arrows are, would be more than 16 at an object". */
    private static void pairsOfPowers() {
        int[][] rows = {{8, 2, 1}, {9, 2, 0}, {10, 2, 0}, {10, 1, 1}, {5, 3, 1}, {6, 3, 0}, {4, 4, 1}, {5, 4, 0}, {10, 0, 1}};
        for (int[] row : rows) {
            Script s = new Script("pairs of powers, " + java.util.Arrays.toString(row));
            s.parallel(row[0]);
            s.sets(0, row[1], 0);
            s.sets(0, 1, 0);
            addsOrNot(row[2] == 1, s, 2, "combine", 0, 1, '^');
            // As many pairs, but of an exponent that has none where they would be too many.
            s.sets(0, 0, 0);
            addsOrNot(true, s, 3, "combine", 2, 1, '^');
        }
        // At each object 16 pairs fit, however many there are at all of them: eight arrows to 2 from 0 and from 1.
        Script s = new Script("pairs of powers at two objects");
        s.call("category", 3);
        for (int i = 0; i < 8; i++) {
            s.call("arrow", 0, i % 2, 2);
        }
        s.sets(0, 4, 4, 0);
        s.sets(0, 1, 1, 0);
        addsOrNot(true, s, 2, "combine", 0, 1, '^');
        s.call("category", 3);
        for (int i = 0; i < 9; i++) {
            s.call("arrow", 1, i % 2, 2);
        }
        s.sets(1, 4, 4, 0);
        s.sets(1, 1, 1, 0);
        addsOrNot(false, s, 4, "combine", 2, 3, '^');
    }

    /** 3 is covered by 1 and 2, that meet in 0: families are pairs over the same element at 0. */
    private static void families() {
        int[][] fibres = {{2, 0, 2, 0, 4}, {2, 0, 2, 1, 4}, {2, 1, 2, 1, 5}, {1, 2, 2, 1, 4}, {3, 0, 2, 0, 6}, {1, 0, 4, 0, 4},
            {1, 1, 4, 0, 4}, {1, 1, 3, 1, 4}, {1, 1, 2, 2, 4}, {4, 0, 4, 0, 16}, {3, 1, 1, 2, 5}, {0, 0, 3, 1, 0}};
        for (int[] row : fibres) {
            Script s = new Script("families, " + java.util.Arrays.toString(row));
            s.call("category", 4);
            int[][] ends = {{0, 1}, {0, 2}, {1, 3}, {2, 3}, {0, 3}};
            for (int[] end : ends) {
                s.call("arrow", 0, end[0], end[1]);
            }
            s.call("compose", 0, 6, 4, 8);
            s.call("compose", 0, 7, 5, 8);
            s.sets(0, 2, row[0] + row[1], row[2] + row[3], 0);
            for (int object = 1; object < 3; object++) {
                for (int i = 0; i < row[2 * object - 2] + row[2 * object - 1]; i++) {
                    s.call("act", 0, 3 + object, i, i < row[2 * object - 2] ? 0 : 1);
                }
            }
            s.due(true, "isPresheaf", 0);
            addsOrNot(true, s, 1, "plus", 0);
            s.call("cover", 0, 3, 64 + 128 + 256);
            addsOrNot(row[4] <= 4, s, 1, "plus", 0);
            s.due(row[4] == 0, "isSheaf", 0);
            s.due(true, "isSeparated", 0);
            if (row[4] <= 4) {
                s.due(1, "plus", 0);
                s.due(row[4], "size", 1, 3);
                s.due(true, "isSheaf", 1);
            }
        }
    }

    /** From as many points as there are sizes to one: to the left a sum, to the right a product. */
    private static void pushed() {
        int[][] rows = {{2, 2}, {4, 0}, {0, 4}, {3, 2}, {4, 1}, {1, 4}, {1, 3}, {1, 1, 2}, {2, 2, 1}, {1, 1, 1, 1}, {2, 1, 1, 1},
            {4, 4, 4, 4}, {0, 0, 0, 0}, {4, 4, 4, 0}, {2, 3}, {1, 2, 2}, {0, 0, 4, 1}, {0, 0, 0, 4}, {1, 0, 0, 4}, {1, 1, 1, 4}};
        for (int[] row : rows) {
            Script s = new Script("pushed from points, " + java.util.Arrays.toString(row));
            s.call("category", row.length);
            s.call("category", 1);
            s.call("functor", 0, 1);
            int sum = 0;
            int product = 1;
            for (int object = 0; object < row.length; object++) {
                s.call("sendObject", 0, object, 0);
                sum += row[object];
                product *= row[object];
            }
            s.sets(0, row);
            addsOrNot(sum <= 4, s, 1, "move", 0, 0, 'l');
            addsOrNot(product <= 4, s, 1, "move", 0, 0, 'r');
        }
        pushedAlongArrows();
        pulled();
    }

    private static void pushedAlongArrows() {
        // From 0 below 1 and 2 to a point: to the right pairs over the same element, to the left classes of those at all.
        int[][] fibres = {{2, 0, 2, 1, 4}, {2, 1, 2, 1, 5}, {1, 1, 2, 2, 4}, {3, 1, 1, 2, 5}};
        for (int[] row : fibres) {
            Script s = new Script("pushed along arrows, " + java.util.Arrays.toString(row));
            s.call("category", 3);
            s.call("arrow", 0, 0, 1);
            s.call("arrow", 0, 0, 2);
            s.call("category", 1);
            s.call("functor", 0, 1);
            for (int object = 0; object < 3; object++) {
                s.call("sendObject", 0, object, 0);
            }
            s.call("sendArrow", 0, 3, 0);
            s.call("sendArrow", 0, 4, 0);
            s.sets(0, 2, row[0] + row[1], row[2] + row[3]);
            for (int object = 1; object < 3; object++) {
                for (int i = 0; i < row[2 * object - 2] + row[2 * object - 1]; i++) {
                    s.call("act", 0, 2 + object, i, i < row[2 * object - 2] ? 0 : 1);
                }
            }
            addsOrNot(row[4] <= 4, s, 1, "move", 0, 0, 'r');
            s.due(1, "move", 0, 0, 'l');
            s.due(2, "size", 1, 0);
        }
        // Of three arrows each on four elements there are twelve pairs, but four classes.
        Script s = new Script("many pairs and four classes");
        s.turn();
        s.call("functor", 0, 0);
        s.call("sendObject", 0, 0, 0);
        s.call("sendArrow", 0, 1, 1);
        s.call("sendArrow", 0, 2, 2);
        s.sets(0, 4);
        s.acts(0, 1, 1, 2, 0, 3);
        s.acts(0, 2, 2, 0, 1, 3);
        for (char way : new char[] {'l', 'r', 'b'}) {
            addsOrNot(true, s, 1, "move", 0, 0, way);
        }
    }

    /** What is pulled back has no set that was not there: it is never too big. */
    private static void pulled() {
        Script s = new Script("pulled back");
        s.call("category", 4);
        s.call("category", 1);
        s.call("functor", 0, 1);
        for (int object = 0; object < 4; object++) {
            s.call("sendObject", 0, object, 0);
        }
        s.sets(1, 4);
        s.due(1, "move", 0, 0, 'b');
        s.sizesAre(1, 4, 4, 4, 4);
        s.due(10.0, "meanElements");
    }

    // ---- "More than 5000 are not counted."

    /** 1, 2 and 3 lie over 0: a map takes an element at 0 to another one, and what lies over it to what lies over that. */
    private static Script stars(String title) {
        Script s = new Script(title);
        s.call("category", 4);
        for (int object = 1; object < 4; object++) {
            s.call("arrow", 0, 0, object);
        }
        s.sets(0, 3, 2, 4, 3);
        s.acts(0, 4, 0, 0);
        s.acts(0, 5, 1, 2, 0, 2);
        s.acts(0, 6, 2, 0, 1);
        s.sets(0, 2, 4, 3, 4);
        s.acts(1, 4, 1, 0, 1, 1);
        s.acts(1, 5, 0, 1, 1);
        s.acts(1, 6, 0, 1, 1, 1);
        return s;
    }

    private static void almost5000() {
        // (1 + 9 * 2 * 3) * (1 + 2 * 3) * (1 + 4 * 3) are 5005.
        Script s = stars("5005 maps");
        s.refused(Script.UNSUPPORTED, "maps", 0, 1);
        s.refused(Script.UNSUPPORTED, "areAlike", 0, 1);
        for (int index : new int[] {-1, 0, 4999, 5000, 5004, 5005}) {
            s.refused(Script.UNSUPPORTED, "mapped", 0, 1, index, 0);
            s.refused(Script.OUT, "mapped", 0, 1, index, 12);
        }
        // One at 3 that lies over 0 and no more over 1 leaves two of three there: fewer maps.
        s.due(1, "act", 1, 6, 3, 0);
        s.due((2 + 9 * 2 * 2) * (2 + 2 * 2) * (2 + 4 * 2), "maps", 0, 1);
        s.refused(Script.NONE, "mapped", 0, 1, 2280, 0);
        s.due(1, "mapped", 0, 1, 2279, 0);
        Script t = new Script("5000 maps");
        t.call("category", 4);
        t.call("arrow", 0, 0, 1);
        t.call("arrow", 0, 2, 3);
        t.sets(0, 4, 4, 3, 4);
        t.acts(0, 4, 0, 0, 1, 1);
        t.acts(0, 5, 0, 0, 1, 1);
        t.sets(0, 2, 3, 2, 3);
        t.acts(1, 4, 0, 0, 1);
        t.acts(1, 5, 0, 0, 1);
        t.due(5000, "maps", 0, 1);
        t.due(false, "areAlike", 0, 1);
        t.due(0, "mapped", 0, 1, 0, 0);
        t.due(1, "mapped", 0, 1, 4999, 0);
        // With two elements over one, four of five go to what has two over it.
        t.due(0, "mapped", 0, 1, 3999, 0);
        t.due(1, "mapped", 0, 1, 4000, 0);
        t.refused(Script.NONE, "mapped", 0, 1, 5000, 0);
        t.refused(Script.NONE, "mapped", 0, 1, -1, 0);
    }

    /**
     * Points at 0, and over them what has one at 1 and at 3, and what has two, a start and an end, at 2. Of what
     * they go to, the point 0 has 1 and 2 over it, 1 has 3 and 1, and at 2 there are one from 0 to 0, one from 0
     * to 1 and two from 1 to 1.
     */
    private static void just5001() {
        Script s = new Script("5001 maps");
        s.call("category", 4);
        for (int to : new int[] {1, 2, 2, 3}) {
            s.call("arrow", 0, 0, to);
        }
        s.sets(0, 3, 4, 4, 1);
        s.acts(0, 4, 2, 0, 2, 0);
        s.acts(0, 5, 1, 1, 2, 2);
        s.acts(0, 6, 0, 0, 0, 2);
        s.acts(0, 7, 0);
        s.sets(0, 2, 4, 4, 3);
        s.acts(1, 4, 1, 1, 1, 0);
        s.acts(1, 5, 0, 0, 1, 1);
        s.acts(1, 6, 1, 0, 1, 1);
        s.acts(1, 7, 0, 0, 1);
        // To where the point 0 goes: then in what ways what lies over it goes, the point 1 and the point 2.
        int counted = 1 * 1 * 2 * (1 * 1) * 1 + 3 * 3 * 1 * (1 * 1 + 2 * 2) * (1 + 3 * 3 * 2 * 2);
        Script.expect(counted == 1667, "a third of 5001 are 1667");
        s.due(counted, "maps", 0, 1);
        s.due(1, "mapped", 0, 1, 1666, 0);
        s.refused(Script.NONE, "mapped", 0, 1, 1667, 0);
        s.due(3, "element", 0, 0);
        s.due(2 * counted, "maps", 0, 1);
        s.due(1, "element", 0, 3);
        s.due(-1, "act", 0, 7, 1, 3);
        s.due(true, "isPresheaf", 0);
        // The last point goes where it goes with one of three over it: 5001, one too many.
        s.refused(Script.UNSUPPORTED, "maps", 0, 1);
        s.refused(Script.UNSUPPORTED, "areAlike", 0, 1);
        for (int index : new int[] {-1, 0, 4999, 5000, 5001}) {
            s.refused(Script.UNSUPPORTED, "mapped", 0, 1, index, 0);
        }
        s.due(3, "act", 0, 7, 1, 0);
        s.due(2 * (counted + 2), "maps", 0, 1);
    }

    /** Only those from the first to the other are too many, or those back. */
    private static void oneWayOnly() {
        Script s = new Script("too many maps one way");
        s.call("category", 2);
        s.sets(0, 4, 4);
        s.sets(0, 3, 3);
        s.sets(0, 4, 4);
        s.refused(Script.UNSUPPORTED, "areAlike", 0, 1);
        s.due(false, "areAlike", 1, 0);
        s.refused(Script.UNSUPPORTED, "areAlike", 0, 2);
        s.due(4096, "maps", 1, 0);
        s.refused(Script.UNSUPPORTED, "maps", 0, 1);
        // An empty set leaves none, and none are not too many, however many there would be elsewhere.
        s.sets(0, 4, 0);
        s.sets(0, 4, 1);
        s.due(0, "maps", 0, 3);
        s.due(256, "maps", 3, 0);
        s.due(256, "maps", 0, 4);
        s.due(false, "areAlike", 0, 3);
    }

    // ---- "31 times itself plus": beyond what a long holds the sum goes round

    private static void goesRound() {
        BigInteger turn = BigInteger.ONE.shiftLeft(64);
        BigInteger sum = BigInteger.valueOf(7);
        Script s = new Script("the sum goes round");
        s.arrow();
        boolean low = false;
        boolean high = false;
        for (int i = 0; i < 10; i++) {
            // Sizes, then both identities, then an action that was not told.
            s.sets(0, i % 3, 4);
            for (int size : new int[] {i % 3, 4}) {
                sum = sum.multiply(BigInteger.valueOf(31)).add(BigInteger.valueOf(size));
            }
            for (int element = 0; element < i % 3 + 8; element++) {
                int image = element < i % 3 ? element : element < i % 3 + 4 ? element - i % 3 : -1;
                sum = sum.multiply(BigInteger.valueOf(31)).add(BigInteger.valueOf(image));
            }
            BigInteger rest = sum.mod(turn);
            BigInteger due = rest.testBit(63) ? rest.subtract(turn) : rest;
            s.due(due.longValueExact(), "checksum");
            low = low || due.signum() < 0;
            high = high || i > 0 && due.signum() > 0;
        }
        s.due(true, "isSound");
        Script.expect(low && high && sum.bitLength() > 128, "the sum was below and above 0 after it went round");
    }

    public static void main(String[] args) {
        represented();
        truths();
        pairsAndSums();
        powersOfSets();
        pairsOfPowers();
        families();
        pushed();
        almost5000();
        just5001();
        oneWayOnly();
        goesRound();
        Script.end("bounds");
    }
}
