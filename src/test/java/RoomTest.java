import java.lang.management.ManagementFactory;
import java.lang.reflect.Array;
import java.lang.reflect.Field;
import java.lang.reflect.Modifier;
import java.util.ArrayDeque;
import java.util.Collections;
import java.util.IdentityHashMap;
import java.util.Set;

/** What an object takes of the room of a run: little when it is made, nothing by its calls. */
public final class RoomTest {
    private static final String TEXT = "board a 9 3;board b 8 5;board c 7 1;board d 9 2;thinks 1 3;step 1;clock 300;flag 8;"
        + "worth a=if think<2 then time/(1+idle) else left*move-sum;answer a=think+1;draw a=idle-1;";

    public static void main(String[] args) throws IllegalAccessException {
        int wrong = 0;
        OneClock made = Tapes.reading(TEXT);
        long[] size = sizeOf(made);
        System.out.println("an object: " + size[0] + " objects, " + size[1] + " fields and elements");
        if (size[0] > 100 || size[1] > 10000) {
            System.out.println("an object takes too much");
            wrong++;
        }
        com.sun.management.ThreadMXBean threads = (com.sun.management.ThreadMXBean) ManagementFactory.getThreadMXBean();
        int[][] fives = new int[40][];
        for (int k = 0; k < 40; k++) {
            fives[k] = Tapes.twenty(Tapes.bytes(TEXT), 20 * k);
        }
        callAll(made, fives);
        long ahead = threads.getCurrentThreadAllocatedBytes();
        callAll(made, fives);
        long taken = threads.getCurrentThreadAllocatedBytes() - ahead;
        // The look at the count itself may take a little.
        if (taken > 1000) {
            System.out.println("calls took " + taken + " bytes");
            wrong++;
        }
        if (wrong > 0) {
            System.exit(1);
        }
    }

    private static void callAll(OneClock x, int[][] fives) {
        for (int k = 0; k * 20 < TEXT.length(); k++) {
            x.feed(fives[k][0], fives[k][1], fives[k][2], fives[k][3], fives[k][4]);
        }
        x.read();
        x.place();
        for (int n = 0; n < 60; n++) {
            x.move(n % 4, n % 2);
            x.offer(n % 4);
            x.pause(1);
            x.hold(n % 3);
            x.undo();
            x.board(n % 4, n % 6);
            x.count(n % 14);
            x.begins(n % 4);
        }
        x.restore(1);
        x.drop(3);
        x.sum();
        for (int n = 0; n < 8; n++) {
            x.best(1 + n % 3);
            x.bestAt(1 + n % 3, 0);
            x.rule(n % 4, n % 2, 0);
            x.bestRule(n % 3);
            x.dropBest(n % 4, n % 2, 0);
            x.offerBest(n % 4, n % 2, 0);
            x.haste(n % 4, n % 4, n % 2);
            x.spare(n % 4, n % 4, n % 2);
            x.agreed(0, 1, n % 4, n % 2, 0);
            x.seats(n % 4, n % 2);
            x.seatAt(n % 4, n % 2, 0);
            x.shared(n % 4, n % 2, 0);
            x.tell(n % 2, 5 + n * 4);
            x.fits(n % 4);
        }
        x.forget();
        x.back(1);
    }

    /** How many objects and arrays can be reached, and how many fields and elements they have. */
    private static long[] sizeOf(Object root) throws IllegalAccessException {
        Set<Object> seen = Collections.newSetFromMap(new IdentityHashMap<>());
        ArrayDeque<Object> work = new ArrayDeque<>();
        seen.add(root);
        work.add(root);
        long parts = 0;
        while (!work.isEmpty()) {
            Object one = work.poll();
            if (one.getClass().isArray()) {
                parts += Array.getLength(one);
                continue;
            }
            for (Field field : one.getClass().getDeclaredFields()) {
                if (!Modifier.isStatic(field.getModifiers())) {
                    parts++;
                    field.setAccessible(true);
                    Object other = field.getType().isPrimitive() ? null : field.get(one);
                    if (other != null && seen.add(other)) {
                        work.add(other);
                    }
                }
            }
        }
        return new long[] {seen.size(), parts};
    }
}
