import com.sun.management.ThreadMXBean;
import java.lang.management.ManagementFactory;

/** All calls of a run live in one room: no call makes rows of its own, and the dearest ones end soon. */
public final class RoomTest {
    private static final int CALLS = 512;
    private static final long MOST_BYTES = 2_000_000;
    private static final long MOST_MILLISECONDS = 20_000;

    private static int wrong = 0;

    private RoomTest() {
    }

    private interface Call {
        void on(PresheafHouse house);
    }

    private static PresheafHouse sets(int objects, int arrows) {
        PresheafHouse house = new PresheafHouse();
        house.category(objects);
        for (int arrow = objects; arrow < arrows; arrow++) {
            house.arrow(0, 0, 0);
        }
        for (int second = objects; second < arrows; second++) {
            for (int first = objects; first < arrows; first++) {
                house.compose(0, second, first, second);
            }
        }
        house.presheaf(0);
        for (int object = 0; object < objects; object++) {
            for (int element = 0; element < 4; element++) {
                house.element(0, object);
            }
        }
        for (int arrow = objects; arrow < arrows; arrow++) {
            for (int element = 0; element < 4; element++) {
                house.act(0, arrow, element, element);
            }
        }
        house.functor(0, 0);
        for (int object = 0; object < objects; object++) {
            house.sendObject(0, object, object);
        }
        for (int arrow = objects; arrow < arrows; arrow++) {
            house.sendArrow(0, arrow, arrow);
        }
        return house;
    }

    private static void measure(String name, PresheafHouse house, Call call) {
        ThreadMXBean bean = (ThreadMXBean) ManagementFactory.getThreadMXBean();
        long thread = Thread.currentThread().getId();
        long bytes = bean.getThreadAllocatedBytes(thread);
        long time = System.nanoTime();
        for (int i = 0; i < CALLS; i++) {
            try {
                call.on(house);
            } catch (UnsupportedOperationException | IllegalStateException due) {
                // What is refused may be refused: only its room and time count here.
            }
        }
        bytes = bean.getThreadAllocatedBytes(thread) - bytes;
        time = (System.nanoTime() - time) / 1_000_000;
        if (bytes > MOST_BYTES || time > MOST_MILLISECONDS) {
            wrong++;
            System.out.println(name + " took " + bytes + " bytes and " + time + " ms for all calls");
        }
    }

    private static void measureHouse() {
        ThreadMXBean bean = (ThreadMXBean) ManagementFactory.getThreadMXBean();
        long thread = Thread.currentThread().getId();
        long bytes = bean.getThreadAllocatedBytes(thread);
        new PresheafHouse();
        bytes = bean.getThreadAllocatedBytes(thread) - bytes;
        if (bytes > MOST_BYTES) {
            wrong++;
            System.out.println("a new house took " + bytes + " bytes");
        }
    }

    public static void main(String[] args) {
        for (int[] world : new int[][] {{4, 12}, {1, 12}, {4, 4}}) {
            PresheafHouse house = sets(world[0], world[1]);
            String of = " of " + world[0] + " objects and " + world[1] + " arrows";
            measure("maps" + of, house, h -> h.maps(0, 0));
            measure("mapped" + of, house, h -> h.mapped(0, 0, 255, 3));
            measure("power" + of, house, h -> h.combine(0, 0, '^'));
            measure("parts" + of, house, h -> h.parts(0));
            measure("truth" + of, house, h -> h.truth(0));
            measure("left" + of, house, h -> h.move(0, 0, 'l'));
            measure("right" + of, house, h -> h.move(0, 0, 'r'));
            measure("plus" + of, house, h -> h.plus(0));
            measure("sheafShare" + of, house, PresheafHouse::sheafShare);
            measure("isSound" + of, house, PresheafHouse::isSound);
        }
        measureHouse();
        System.out.println(wrong == 0 ? "room and time are as due" : wrong + " calls take too much");
        if (wrong != 0) {
            System.exit(1);
        }
    }
}
