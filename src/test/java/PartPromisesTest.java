/** Promises 25 to 29. */
public final class PartPromisesTest {
    private static final int LOW = Integer.MIN_VALUE;
    private static final int HIGH = Integer.MAX_VALUE;
    private static final int[] NEVER = {-1, LOW, HIGH};

    private PartPromisesTest() {
    }

    /** Places 0 and 1 at the object 0, and 2, 3, 4 at 1, over 0, 1 and 1; presheaf 1 is not whole. */
    private static Script world(String title) {
        Script s = new Script(title);
        s.arrow();
        s.sets(0, 2, 3);
        s.acts(0, 2, 0, 1, 1);
        s.sets(0, 1, 1);
        return s;
    }

    private static void promise25() {
        Script s = world("promise 25");
        // 2^2 without, and with each of both at 0 the parts of what lies over it.
        s.due((1 + 2) * (1 + 4), "parts", 0);
        s.refused(Script.UNSUPPORTED, "parts", 1);
        s.due(2, "represent", 0, 1);
        s.due(3, "parts", 2);
        s.due(3, "presheaf", 0);
        s.due(1, "parts", 3);
        s.refused(Script.OUT, "parts", 4);
        for (int wrong : NEVER) {
            s.refused(Script.OUT, "parts", wrong);
        }
        Script t = new Script("promise 25, many");
        t.call("category", 4);
        t.sets(0, 4, 4, 4, 4);
        t.due(65536, "parts", 0);
        t.sets(0, 4, 4, 4, 3);
        t.due(32768, "parts", 1);
        t.swap();
        t.sets(1, 4);
        t.acts(2, 1, 1, 0, 2, 3);
        t.due(8, "parts", 2);
        t.chain();
        t.sets(2, 1, 4, 4);
        t.acts(3, 3, 0, 0, 0, 0);
        t.acts(3, 4, 0, 1, 2, 3);
        t.acts(3, 5, 0, 0, 0, 0);
        t.due(1 + 81, "parts", 3);
    }

    private static void promise26() {
        Script s = world("promise 26");
        int all = 31;
        s.due(1, "join", 0, 1 | 4, 1 | 2, '&');
        s.due(7, "join", 0, 1 | 4, 1 | 2, '|');
        s.due(2 | 8 | 16 | 1, "join", 0, 1 | 4, 1 | 2, '>');
        s.due(1 | 4 | 2 | 8, "join", 0, 2 | 16, 2 | 8, '>');
        s.due(2 | 8 | 16, "join", 0, 1 | 4, 0, '>');
        s.due(1 | 4, "join", 0, 2, 0, '>');
        s.due(0, "join", 0, 3, 0, '>');
        s.due(all, "join", 0, 3, 3, '>');
        s.due(all, "join", 0, 0, 0, '>');
        s.due(1 | 2, "join", 0, all, 1 | 2, '>');
        s.due(0, "join", 0, 0, all, '&');
        s.due(all, "join", 0, all, all, '&');
        s.refused(Script.ILLEGAL, "join", 0, 4, 0, '&');
        s.refused(Script.ILLEGAL, "join", 0, 0, 8, '|');
        s.refused(Script.ILLEGAL, "join", 0, 32, 0, '&');
        s.refused(Script.ILLEGAL, "join", 0, 0, 32, '&');
        s.refused(Script.ILLEGAL, "join", 0, 1, 1, 'x');
        s.refused(Script.ILLEGAL, "join", 0, 1, 1, (char) 0);
        for (int wrong : NEVER) {
            s.refused(Script.ILLEGAL, "join", 0, wrong, 0, '&');
            s.refused(Script.ILLEGAL, "join", 0, 0, wrong, '>');
            s.refused(Script.OUT, "join", wrong, 0, 0, '&');
        }
        s.refused(Script.OUT, "join", 2, 4, 0, 'x');
        s.refused(Script.UNSUPPORTED, "join", 1, 0, 0, '&');
        s.refused(Script.UNSUPPORTED, "join", 1, -1, 0, 'x');
        Script t = new Script("promise 26, 16 places");
        t.call("category", 4);
        t.sets(0, 4, 4, 4, 4);
        t.due(0xFFFF, "join", 0, 0xF0F0, 0x0F0F, '|');
        t.due(0x0F0F, "join", 0, 0xF0F0, 0x0F0F, '>');
        t.refused(Script.ILLEGAL, "join", 0, 0x10000, 0, '|');
        t.refused(Script.ILLEGAL, "join", 0, 0, LOW, '|');
    }

    private static void promise27() {
        Script s = world("promise 27");
        s.due(0, "least", 0, 0);
        s.due(1, "least", 0, 1);
        s.due(1 | 4, "least", 0, 4);
        s.due(2 | 8, "least", 0, 8);
        s.due(2 | 8 | 16, "least", 0, 24);
        s.due(1 | 2 | 16, "least", 0, 17);
        s.due(31, "least", 0, 28);
        s.refused(Script.ILLEGAL, "least", 0, 32);
        s.refused(Script.OUT, "least", 2, 0);
        for (int wrong : NEVER) {
            s.refused(Script.ILLEGAL, "least", 0, wrong);
            s.refused(Script.OUT, "least", wrong, 0);
        }
        s.refused(Script.UNSUPPORTED, "least", 1, 1);
        s.refused(Script.UNSUPPORTED, "least", 1, -1);
        Script t = new Script("promise 27, 16 places");
        t.call("category", 4);
        t.sets(0, 4, 4, 4, 4);
        t.due(0xFFFF, "least", 0, 0xFFFF);
        t.refused(Script.ILLEGAL, "least", 0, 0x10000);
        t.turn();
        t.sets(1, 4);
        t.acts(1, 1, 1, 2, 0, 3);
        t.acts(1, 2, 2, 0, 1, 3);
        t.due(7, "least", 1, 2);
        t.due(8, "least", 1, 8);
        t.due(15, "least", 1, 12);
    }

    private static void promise28() {
        Script s = world("promise 28");
        s.due(4, "truthOf", 0, 1, 2);
        s.due(6, "truthOf", 0, 5, 2);
        s.due(0, "truthOf", 0, 2, 2);
        s.due(0, "truthOf", 0, 0, 2);
        s.due(1, "truthOf", 0, 1, 0);
        s.due(0, "truthOf", 0, 1, 1);
        s.due(4, "truthOf", 0, 2, 4);
        s.due(4, "truthOf", 0, 10, 4);
        s.due(6, "truthOf", 0, 18, 4);
        s.refused(Script.ILLEGAL, "truthOf", 0, 4, 2);
        s.refused(Script.ILLEGAL, "truthOf", 0, 32, 2);
        s.refused(Script.OUT, "truthOf", 0, 1, 5);
        s.refused(Script.OUT, "truthOf", 0, 4, 5);
        s.refused(Script.OUT, "truthOf", 2, 0, 0);
        for (int wrong : NEVER) {
            s.refused(Script.ILLEGAL, "truthOf", 0, wrong, 2);
            s.refused(Script.OUT, "truthOf", 0, 1, wrong);
            s.refused(Script.OUT, "truthOf", wrong, 0, 0);
        }
        s.refused(Script.UNSUPPORTED, "truthOf", 1, 0, 0);
        s.refused(Script.UNSUPPORTED, "truthOf", 1, -1, 1);
        s.refused(Script.OUT, "truthOf", 1, 0, 2);
        Script t = new Script("promise 28, an idempotent");
        t.idempotent();
        t.sets(0, 3);
        t.acts(0, 1, 0, 0, 2);
        t.due(2, "truthOf", 0, 1, 1);
        t.due(3, "truthOf", 0, 1, 0);
        t.due(0, "truthOf", 0, 1, 2);
        t.due(3, "truthOf", 0, 3, 1);
    }

    private static void promise29() {
        Script s = world("promise 29");
        s.due(false, "isBoolean", 0);
        s.due(2, "represent", 0, 0);
        s.due(true, "isBoolean", 2);
        s.due(3, "represent", 0, 1);
        s.due(false, "isBoolean", 3);
        s.due(4, "presheaf", 0);
        s.due(true, "isBoolean", 4);
        s.refused(Script.UNSUPPORTED, "isBoolean", 1);
        s.refused(Script.OUT, "isBoolean", 5);
        for (int wrong : NEVER) {
            s.refused(Script.OUT, "isBoolean", wrong);
        }
        Script t = new Script("promise 29, monoids");
        t.turn();
        t.due(0, "represent", 0, 0);
        t.due(true, "isBoolean", 0);
        t.idempotent();
        t.due(1, "represent", 1, 0);
        t.due(false, "isBoolean", 1);
        t.sets(1, 3);
        t.acts(2, 1, 0, 1, 2);
        t.due(true, "isBoolean", 2);
        t.constants(2);
        t.call("opposite", 2);
        t.sets(3, 2);
        t.acts(3, 1, 0, 0);
        t.acts(3, 2, 1, 1);
        t.due(true, "isBoolean", 3);
        t.sets(3, 3);
        t.acts(4, 1, 0, 0, 0);
        t.acts(4, 2, 1, 1, 1);
        t.due(false, "isBoolean", 4);
    }

    /** As many places as there can be: the last one counts as all others do. */
    private static void sixteenPlaces() {
        Script s = new Script("16 places, nothing over anything");
        s.call("category", 4);
        s.sets(0, 4, 4, 4, 4);
        s.due(65536, "parts", 0);
        s.due(true, "isBoolean", 0);
        s.due(0xF0F0, "join", 0, 0x0F0F, 0xF0F0, '>');
        s.due(0x8000, "join", 0, 0x7FFF, 0x8000, '>');
        s.due(0x8000, "join", 0, 0xF000, 0x8FFF, '&');
        s.due(0xFFFF, "join", 0, 0x8000, 0x7FFF, '|');
        s.due(0x8000, "least", 0, 0x8000);
        s.due(8, "truthOf", 0, 0x8000, 15);
        s.due(0, "truthOf", 0, 0x7FFF, 15);
        s.refused(Script.OUT, "truthOf", 0, 0x8000, 16);
        Script t = new Script("16 places, the first ones over the last ones");
        t.call("category", 4);
        t.call("arrow", 0, 3, 0);
        t.sets(0, 4, 4, 4, 4);
        t.acts(0, 4, 3, 2, 1, 0);
        t.due(81 * 256, "parts", 0);
        t.due(false, "isBoolean", 0);
        t.due(0x8001, "least", 0, 1);
        t.due(0x9009, "least", 0, 9);
        t.refused(Script.ILLEGAL, "join", 0, 1, 0, '&');
        t.refused(Script.ILLEGAL, "join", 0, 0, 0x7FFF, '|');
        t.due(0xFFFE, "join", 0, 0x8001, 0x8000, '>');
        t.due(0x7FFE, "join", 0, 0x8000, 0, '>');
        t.due(16, "truthOf", 0, 0x8000, 0);
        t.due(1 + 16, "truthOf", 0, 0x8001, 0);
        t.due(8, "truthOf", 0, 0x8000, 15);
        t.acts(0, 4, 3, 3, 3, 3);
        t.due((8 + 8 * 16) * 256, "parts", 0);
        t.due(0x800F, "least", 0, 15);
        Script u = new Script("16 places, the last ones turned round");
        u.call("category", 4);
        u.call("arrow", 0, 3, 3);
        u.call("compose", 0, 4, 4, 3);
        u.sets(0, 4, 4, 4, 4);
        u.acts(0, 4, 1, 0, 3, 2);
        u.due(4 * 4096, "parts", 0);
        u.due(true, "isBoolean", 0);
        u.due(0xC000, "least", 0, 0x8000);
        u.due(0x3FFF, "join", 0, 0xC000, 0, '>');
        u.due(8 + 16, "truthOf", 0, 0xC000, 15);
        u.refused(Script.ILLEGAL, "truthOf", 0, 0x8000, 15);
    }

    public static void main(String[] args) {
        promise25();
        promise26();
        promise27();
        promise28();
        promise29();
        sixteenPlaces();
        Script.end("promises 25 to 29");
    }
}
