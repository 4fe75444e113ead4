/** Promises 43 to 46. */
public final class FigurePromisesTest {
    private FigurePromisesTest() {
    }

    private static void promise43() {
        Script s = new Script("promise 43");
        s.refused(Script.ARITHMETIC, "sheafShare");
        s.arrow();
        s.refused(Script.ARITHMETIC, "sheafShare");
        s.sets(0, 1, 1);
        s.refused(Script.ARITHMETIC, "sheafShare");
        s.acts(0, 2, 0);
        s.due(1.0f, "sheafShare");
        s.call("cover", 0, 1, 4);
        s.due(1.0f, "sheafShare");
        s.sets(0, 1, 2);
        s.acts(1, 2, 0, 0);
        s.due(0.5f, "sheafShare");
        s.sets(0, 2, 1);
        s.acts(2, 2, 0);
        s.due(1.0f / 3.0f, "sheafShare");
        s.sets(0, 2, 1);
        s.due(1.0f / 3.0f, "sheafShare");
        s.call("category", 1);
        s.call("presheaf", 1);
        s.due(0.5f, "sheafShare");
        s.call("uncover", 0);
        s.due(1.0f, "sheafShare");
        s.call("cover", 1, 0, 0);
        s.due(0.75f, "sheafShare");
        s.call("cover", 0, 1, 0);
        s.due(0.25f, "sheafShare");
        s.call("element", 0, 0);
        s.call("act", 0, 2, 0, 1);
        s.due(0.0f, "sheafShare");
        for (int i = 5; i > 0; i--) {
            s.due(i - 1, "drop");
        }
        s.refused(Script.ARITHMETIC, "sheafShare");
    }

    private static void promise44() {
        Script s = new Script("promise 44");
        s.refused(Script.ARITHMETIC, "meanElements");
        s.arrow();
        s.refused(Script.ARITHMETIC, "meanElements");
        s.call("presheaf", 0);
        s.due(0.0, "meanElements");
        s.sets(0, 4, 3);
        s.due(3.5, "meanElements");
        s.sets(0, 1, 0);
        s.due(8.0 / 3.0, "meanElements");
        s.call("drop");
        s.due(3.5, "meanElements");
        s.call("drop");
        s.call("drop");
        s.refused(Script.ARITHMETIC, "meanElements");
    }

    private static void promise45() {
        Script s = new Script("promise 45");
        s.due(7L, "checksum");
        s.arrow();
        s.due(7L, "checksum");
        s.call("presheaf", 0);
        s.due(7L * 31 * 31, "checksum");
        s.call("element", 0, 0);
        // Sizes 1 and 0, then the identity of 0 on one element.
        s.due(((7L * 31 + 1) * 31 + 0) * 31 + 0, "checksum");
        s.call("element", 0, 1);
        s.due((((((7L * 31 + 1) * 31 + 1) * 31 + 0) * 31 + 0) * 31) - 1, "checksum");
        s.call("act", 0, 2, 0, 0);
        s.due((((((7L * 31 + 1) * 31 + 1) * 31 + 0) * 31 + 0) * 31) + 0, "checksum");
        s.call("element", 0, 0);
        s.call("act", 0, 2, 0, 1);
        long sum = (7L * 31 + 2) * 31 + 1;
        for (int image : new int[] {0, 1, 0, 1}) {
            sum = sum * 31 + image;
        }
        s.due(sum, "checksum");
        s.call("category", 1);
        s.call("presheaf", 1);
        s.call("element", 1, 0);
        s.due((sum * 31 + 1) * 31, "checksum");
        s.call("drop");
        s.due(sum, "checksum");
        // Beyond what a long holds the sum goes round.
        Script t = new Script("promise 45, round");
        t.call("category", 4);
        long round = 7;
        for (int i = 0; i < 10; i++) {
            t.sets(0, 4, 4, 4, 4);
            for (int j = 0; j < 4; j++) {
                round = round * 31 + 4;
            }
            for (int j = 0; j < 16; j++) {
                round = round * 31 + j % 4;
            }
            t.due(round, "checksum");
        }
    }

    private static void promise46() {
        Script s = new Script("promise 46");
        s.due(true, "isSound");
        s.chain();
        s.sets(0, 2, 2, 2);
        s.due(true, "isSound");
        s.acts(0, 3, 1, 0);
        s.acts(0, 4, 0, 0);
        s.acts(0, 5, 1, 1);
        s.due(true, "isSound");
        s.parallel(6);
        s.call("represent", 1, 0);
        s.sets(1, 4, 4);
        s.due(true, "isSound");
        s.constants(3);
        s.call("represent", 2, 0);
        s.call("combine", 3, 3, '+');
        s.turn();
        s.call("represent", 3, 0);
        s.call("category", 4);
        s.sets(4, 4, 4, 4, 4);
        s.due(true, "isSound");
        s.call("cover", 0, 2, 0);
        s.due(true, "isSound");
        s.call("drop");
        s.due(true, "isSound");
    }

    public static void main(String[] args) {
        promise43();
        promise44();
        promise45();
        promise46();
        Script.end("promises 43 to 46");
    }
}
