/** Promises 30 to 37. */
public final class SheafPromisesTest {
    private static final int LOW = Integer.MIN_VALUE;
    private static final int HIGH = Integer.MAX_VALUE;
    private static final int[] NEVER = {-1, LOW, HIGH};

    private SheafPromisesTest() {
    }

    /** 0 -> 2 <- 1 by the arrows 3 and 4: an open set of two points and both points. */
    private static int points(Script s) {
        int category = s.call("category", 3);
        s.call("arrow", category, 0, 2);
        s.call("arrow", category, 1, 2);
        return category;
    }

    /** What each call on a sieve refuses. */
    private static void refusals(Script s, String name) {
        s.chain();
        s.call("category", 1);
        s.call("arrow", 1, 0, 0);
        s.refused(Script.ILLEGAL, name, 0, 2, 4);
        s.refused(Script.ILLEGAL, name, 0, 2, 16);
        s.refused(Script.ILLEGAL, name, 0, 2, 4 + 16);
        s.refused(Script.ILLEGAL, name, 0, 2, 1);
        s.refused(Script.ILLEGAL, name, 0, 1, 32);
        s.refused(Script.ILLEGAL, name, 0, 1, 2);
        s.refused(Script.ILLEGAL, name, 0, 2, 64);
        s.refused(Script.ILLEGAL, name, 0, 2, 4096 + 32);
        s.refused(Script.OUT, name, 0, 3, 1);
        s.refused(Script.OUT, name, 2, 0, 1);
        s.refused(Script.OUT, name, 1, 1, 4);
        s.refused(Script.UNSUPPORTED, name, 1, 0, 1);
        s.refused(Script.UNSUPPORTED, name, 1, 0, -1);
        for (int wrong : NEVER) {
            s.refused(Script.ILLEGAL, name, 0, 2, wrong);
            s.refused(Script.OUT, name, 0, wrong, 1);
            s.refused(Script.OUT, name, wrong, 0, 1);
        }
        s.due(6, "arrow", 0, 0, 0);
        s.due(2, "arrow", 1, 0, 0);
    }

    private static void promise30() {
        Script s = new Script("promise 30");
        s.chain();
        s.due(2, "sieves", 0, 0);
        s.due(3, "sieves", 0, 1);
        s.due(4, "sieves", 0, 2);
        s.refused(Script.OUT, "sieves", 0, 3);
        s.refused(Script.OUT, "sieves", 1, 0);
        for (int wrong : NEVER) {
            s.refused(Script.OUT, "sieves", wrong, 0);
            s.refused(Script.OUT, "sieves", 0, wrong);
        }
        s.parallel(10);
        s.due(2, "sieves", 1, 0);
        s.due(1025, "sieves", 1, 1);
        s.turn();
        s.due(2, "sieves", 2, 0);
        s.constants(11);
        s.due(2049, "sieves", 3, 0);
        s.due(4, "opposite", 3);
        s.due(3, "sieves", 4, 0);
        s.call("category", 1);
        s.call("arrow", 5, 0, 0);
        s.refused(Script.UNSUPPORTED, "sieves", 5, 0);
        s.refused(Script.OUT, "sieves", 5, 1);
    }

    private static void promise31() {
        Script s = new Script("promise 31");
        points(s);
        s.due(2, "cover", 0, 2, 8 + 16);
        s.due(1, "cover", 0, 0, 1);
        s.due(2, "cover", 0, 0, 0);
        // The empty sieve covers 0, so what is over 1 alone covers as much as what is over both.
        s.due(3, "cover", 0, 2, 4 + 8 + 16);
        s.due(16, "leastCover", 0, 2);
        s.due(2, "cover", 0, 1, 0);
        s.due(5, "sieves", 0, 2);
        s.due(5, "cover", 0, 2, 28);
        s.due(0, "leastCover", 0, 2);
        refusals(new Script("promise 31, refusals"), "cover");
        Script t = new Script("promise 31, pulled back");
        t.chain();
        // What covers 2 covers 1 and 0, pulled back to them.
        t.due(3, "cover", 0, 2, 32);
        t.due(8, "leastCover", 0, 1);
        t.due(1, "leastCover", 0, 0);
        t.due(1, "uncover", 0);
        t.due(0, "uncover", 0);
    }

    private static void promise31b() {
        Script t = new Script("promise 31, generated");
        t.chain();
        t.due(2, "cover", 0, 2, 16 + 32);
        t.due(2 + 8, "leastCover", 0, 1);
        t.due(2, "cover", 0, 1, 8);
        // 3 covers 1, and 4 covers 2, so what comes of both covers 2.
        t.due(32, "leastCover", 0, 2);
        t.due(true, "covers", 0, 2, 32);
        t.due(false, "covers", 0, 2, 0);
        t.due(2, "uncover", 0);
        t.due(true, "covers", 0, 2, 52);
        t.due(false, "covers", 0, 2, 48);
        t.due(2, "cover", 0, 1, 8);
        t.due(52, "leastCover", 0, 2);
        t.due(4, "cover", 0, 2, 0);
        t.due(0, "leastCover", 0, 0);
        t.due(0, "leastCover", 0, 1);
        Script u = new Script("promise 31, an arrow pulled back along itself");
        u.idempotent();
        u.due(2, "cover", 0, 0, 2);
        u.due(2, "leastCover", 0, 0);
        u.constants(2);
        u.due(2, "cover", 1, 0, 6);
        u.due(6, "leastCover", 1, 0);
        // Pulled back along the other constant, a sieve of one is empty.
        u.due(5, "cover", 1, 0, 2);
        u.due(0, "leastCover", 1, 0);
    }

    /** What covers and comes of what covers covers, again and again. */
    private static void promise31c() {
        for (int last = 1; last < 12; last++) {
            Script s = new Script("promise 31, amounts up to " + last);
            s.amounts(last);
            s.due(last + 2, "sieves", 0, 0);
            int most = 1 << last;
            for (int least = 1; least <= last; least++) {
                s.due(last + 1, "cover", 0, 0, 2 * most - (1 << least));
                s.due(most, "leastCover", 0, 0);
                s.due(false, "covers", 0, 0, 0);
                s.due(true, "covers", 0, 0, most);
                s.due(1, "uncover", 0);
                s.due(1, "cover", 0, 0, 2 * most - 1);
                s.due(2 * most - 1, "leastCover", 0, 0);
                s.due(1, "uncover", 0);
            }
        }
    }

    /** As many told sieves as there is room for in calls, some of them twice, and of two objects. */
    private static void promise32b() {
        Script s = new Script("promise 32, many");
        s.call("category", 4);
        for (int arrow = 4; arrow < 12; arrow++) {
            s.due(arrow, "arrow", 0, 3, arrow < 11 ? 0 : 1);
        }
        for (int set = 127; set >= 0; set--) {
            s.call("cover", 0, 0, set << 4);
            if (set % 3 == 0) {
                s.call("cover", 0, 0, set << 4);
            }
        }
        s.call("cover", 0, 0, 1 + 127 * 16);
        s.call("cover", 0, 1, 2 + 2048);
        s.call("cover", 0, 1, 2048);
        s.call("cover", 0, 1, 0);
        s.call("cover", 0, 1, 2048);
        s.due(132, "uncover", 0);
        s.due(0, "uncover", 0);
        s.call("cover", 0, 0, 2047 - 15);
        s.call("cover", 0, 0, 64);
        s.call("cover", 0, 0, 2047 - 15);
        s.due(2, "uncover", 0);
    }

    private static void promise32() {
        Script s = new Script("promise 32");
        points(s);
        s.due(0, "uncover", 0);
        s.call("cover", 0, 2, 24);
        s.call("cover", 0, 2, 24);
        s.call("cover", 0, 0, 0);
        s.call("cover", 0, 1, 0);
        s.call("cover", 0, 1, 0);
        s.call("cover", 0, 2, 28);
        s.due(4, "uncover", 0);
        s.due(28, "leastCover", 0, 2);
        s.due(1, "leastCover", 0, 0);
        s.due(false, "covers", 0, 2, 24);
        s.due(0, "uncover", 0);
        s.call("cover", 0, 2, 24);
        s.due(24, "leastCover", 0, 2);
        s.due(1, "uncover", 0);
        s.refused(Script.UNSUPPORTED, "arrow", 0, 0, 0);
        s.refused(Script.OUT, "uncover", 1);
        for (int wrong : NEVER) {
            s.refused(Script.OUT, "uncover", wrong);
        }
        s.call("category", 1);
        s.call("arrow", 1, 0, 0);
        s.due(0, "uncover", 1);
        s.due(2, "arrow", 1, 0, 0);
        // The covers of one category are not those of another one.
        Script t = new Script("promise 32, two categories");
        t.call("category", 1);
        t.call("category", 1);
        t.call("cover", 0, 0, 0);
        t.due(1, "leastCover", 1, 0);
        t.due(0, "uncover", 1);
        t.due(1, "uncover", 0);
    }

    private static void promise33() {
        Script s = new Script("promise 33");
        points(s);
        s.due(true, "covers", 0, 2, 28);
        s.due(false, "covers", 0, 2, 24);
        s.due(false, "covers", 0, 2, 0);
        s.call("cover", 0, 2, 24);
        s.due(true, "covers", 0, 2, 28);
        s.due(true, "covers", 0, 2, 24);
        s.due(false, "covers", 0, 2, 8);
        s.due(false, "covers", 0, 2, 16);
        s.due(false, "covers", 0, 0, 0);
        s.due(true, "covers", 0, 0, 1);
        refusals(new Script("promise 33, refusals"), "covers");
        Script t = new Script("promise 33, not fixed by asking");
        t.call("category", 1);
        t.due(true, "covers", 0, 0, 1);
        t.due(1, "arrow", 0, 0, 0);
    }

    private static void promise34() {
        Script s = new Script("promise 34");
        s.chain();
        s.due(1, "leastCover", 0, 0);
        s.due(2 + 8, "leastCover", 0, 1);
        s.due(4 + 16 + 32, "leastCover", 0, 2);
        s.call("cover", 0, 2, 48);
        s.due(48, "leastCover", 0, 2);
        s.due(10, "leastCover", 0, 1);
        s.call("cover", 0, 0, 0);
        s.due(0, "leastCover", 0, 0);
        s.due(10, "leastCover", 0, 1);
        s.refused(Script.OUT, "leastCover", 0, 3);
        s.refused(Script.OUT, "leastCover", 1, 0);
        for (int wrong : NEVER) {
            s.refused(Script.OUT, "leastCover", wrong, 0);
            s.refused(Script.OUT, "leastCover", 0, wrong);
        }
        s.call("category", 1);
        s.call("arrow", 1, 0, 0);
        s.refused(Script.UNSUPPORTED, "leastCover", 1, 0);
        s.refused(Script.OUT, "leastCover", 1, 1);
        Script t = new Script("promise 34, two covers");
        t.parallel(3);
        t.call("cover", 0, 1, 4 + 8);
        // Pulled back along the arrow 4 that is empty, so that nothing is asked of 0, nor then of 1.
        t.due(0, "leastCover", 0, 0);
        t.due(0, "leastCover", 0, 1);
        points(t);
        t.call("cover", 1, 2, 8 + 16);
        t.call("cover", 1, 2, 16);
        t.due(16, "leastCover", 1, 2);
        t.due(0, "leastCover", 1, 0);
        t.due(2, "leastCover", 1, 1);
        t.due(2, "uncover", 1);
        t.call("cover", 0, 1, 0);
        // What is made of a category has no covers.
        t.call("category", 1);
        t.due(3, "times", 0, 2);
        t.due(0, "uncover", 3);
        t.due(2 + 4 + 8 + 16, "leastCover", 3, 1);
        t.due(2, "uncover", 0);
    }

    private static void promise35() {
        Script s = new Script("promise 35");
        points(s);
        s.sets(0, 2, 2, 3);
        s.acts(0, 3, 0, 0, 1);
        s.acts(0, 4, 0, 1, 1);
        s.due(true, "isSeparated", 0);
        s.call("cover", 0, 2, 24);
        s.due(true, "isSeparated", 0);
        s.call("act", 0, 3, 2, 0);
        s.due(false, "isSeparated", 0);
        s.call("uncover", 0);
        s.due(true, "isSeparated", 0);
        s.sets(0, 2, 0, 0);
        s.due(true, "isSeparated", 1);
        s.call("cover", 0, 0, 0);
        s.due(false, "isSeparated", 1);
        s.call("cover", 0, 1, 0);
        s.due(false, "isSeparated", 0);
        s.sets(0, 1, 1, 1);
        s.refused(Script.UNSUPPORTED, "isSeparated", 2);
        s.acts(2, 3, 0);
        s.acts(2, 4, 0);
        s.due(true, "isSeparated", 2);
        s.refused(Script.OUT, "isSeparated", 3);
        for (int wrong : NEVER) {
            s.refused(Script.OUT, "isSeparated", wrong);
        }
    }

    private static void promise36() {
        Script s = new Script("promise 36");
        points(s);
        s.sets(0, 2, 2, 4);
        s.acts(0, 3, 0, 0, 1, 1);
        s.acts(0, 4, 0, 1, 0, 1);
        s.sets(0, 2, 2, 3);
        s.acts(1, 3, 0, 0, 1);
        s.acts(1, 4, 0, 1, 1);
        s.sets(0, 1, 1, 2);
        s.acts(2, 3, 0, 0);
        s.acts(2, 4, 0, 0);
        for (int i = 0; i < 3; i++) {
            s.due(true, "isSheaf", i);
        }
        s.call("cover", 0, 2, 24);
        s.due(true, "isSheaf", 0);
        s.due(false, "isSheaf", 1);
        s.due(true, "isSeparated", 1);
        s.due(false, "isSheaf", 2);
        // Two elements with one family and none with another are as many as families, but it is no sheaf.
        s.call("act", 0, 4, 3, 0);
        s.due(false, "isSheaf", 0);
        s.due(false, "isSeparated", 0);
        s.call("uncover", 0);
        for (int i = 0; i < 3; i++) {
            s.due(true, "isSheaf", i);
        }
        s.sets(0, 0, 1, 0);
        s.due(true, "isSheaf", 3);
        s.call("cover", 0, 0, 0);
        s.due(false, "isSheaf", 3);
        s.sets(0, 1, 1, 0);
        s.due(true, "isSeparated", 4);
        s.due(true, "isSheaf", 4);
        s.sets(0, 1, 1, 1);
        s.refused(Script.UNSUPPORTED, "isSheaf", 5);
        s.refused(Script.OUT, "isSheaf", 6);
        for (int wrong : NEVER) {
            s.refused(Script.OUT, "isSheaf", wrong);
        }
    }

    private static void promise37() {
        Script s = new Script("promise 37");
        points(s);
        s.sets(0, 2, 2, 3);
        s.acts(0, 3, 1, 1, 0);
        s.acts(0, 4, 1, 0, 1);
        s.due(1, "plus", 0);
        // Families of all arrows by the identity's number first: elements as they were.
        s.sizesAre(1, 2, 2, 3);
        s.actsAs(1, 3, 1, 1, 0);
        s.call("cover", 0, 2, 24);
        s.due(2, "plus", 0);
        s.sizesAre(2, 2, 2, 4);
        s.actsAs(2, 3, 0, 0, 1, 1);
        s.actsAs(2, 4, 0, 1, 0, 1);
        s.due(true, "isSheaf", 2);
        s.call("cover", 0, 0, 0);
        s.due(3, "plus", 0);
        s.sizesAre(3, 1, 2, 2);
        s.actsAs(3, 3, 0, 0);
        s.actsAs(3, 4, 0, 1);
        s.call("uncover", 0);
        s.sets(0, 3, 2, 0);
        s.due(5, "plus", 4);
        s.call("cover", 0, 2, 24);
        s.refused(Script.UNSUPPORTED, "plus", 4);
        s.sets(0, 1, 1, 1);
        s.refused(Script.UNSUPPORTED, "plus", 6);
        for (int i = 7; i < 10; i++) {
            s.due(i, "plus", 0);
        }
        s.refused(Script.STATE, "plus", 0);
        s.refused(Script.UNSUPPORTED, "plus", 4);
        s.refused(Script.UNSUPPORTED, "plus", 6);
        s.refused(Script.OUT, "plus", 10);
        for (int wrong : NEVER) {
            s.refused(Script.OUT, "plus", wrong);
        }
        again37();
    }

    /** Plus of what is not separated is separated, and plus of that is a sheaf; an order by arrows, not by objects. */
    private static void again37() {
        Script s = new Script("promise 37, twice");
        points(s);
        s.call("cover", 0, 0, 0);
        s.call("cover", 0, 2, 24);
        s.sets(0, 2, 2, 2);
        s.acts(0, 3, 0, 1);
        s.acts(0, 4, 0, 0);
        s.due(false, "isSeparated", 0);
        s.due(1, "plus", 0);
        s.due(true, "isSeparated", 1);
        s.due(2, "plus", 1);
        s.due(true, "isSheaf", 2);
        Script t = new Script("promise 37, arrows count by numbers");
        t.call("category", 3);
        t.call("arrow", 0, 1, 2);
        t.call("arrow", 0, 0, 2);
        t.call("cover", 0, 2, 24);
        t.sets(0, 2, 2, 0);
        t.due(1, "plus", 0);
        t.sizesAre(1, 2, 2, 4);
        t.actsAs(1, 3, 0, 0, 1, 1);
        t.actsAs(1, 4, 0, 1, 0, 1);
        Script u = new Script("promise 37, an idempotent that covers");
        u.idempotent();
        u.call("cover", 0, 0, 2);
        u.sets(0, 4);
        u.acts(0, 1, 0, 0, 2, 2);
        u.due(1, "plus", 0);
        u.sizesAre(1, 2);
        u.actsAs(1, 1, 0, 1);
        u.due(true, "isSheaf", 1);
    }

    public static void main(String[] args) {
        promise30();
        promise31();
        promise31b();
        promise31c();
        promise32();
        promise32b();
        promise33();
        promise34();
        promise35();
        promise36();
        promise37();
        Script.end("promises 30 to 37");
    }
}
