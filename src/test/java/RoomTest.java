import java.lang.management.ManagementFactory;
import java.lang.reflect.InvocationTargetException;
import java.lang.reflect.Method;
import java.lang.reflect.Modifier;
import java.util.Arrays;
import java.util.Random;

/** No call throws whatever it is asked, and none makes an object: all rows are made with the object itself. */
public final class RoomTest {
    private static final Due DUE = new Due();

    public static void main(String[] args) throws ReflectiveOperationException {
        wildCalls();
        room();
        DUE.end("RoomTest");
    }

    private static int wildInt(Random random) {
        switch (random.nextInt(6)) {
            case 0: return random.nextInt();
            case 1: return new int[] {Integer.MIN_VALUE, Integer.MAX_VALUE, -1, 1 << 12, 9999, 10000}[random.nextInt(6)];
            case 2: return random.nextInt(210) - 5;
            default: return random.nextInt(14) - 1;
        }
    }

    private static void wildCalls() throws ReflectiveOperationException {
        Random random = new Random(48);
        Method[] all = Arrays.stream(DownhillPost.class.getDeclaredMethods())
            .filter(m -> Modifier.isPublic(m.getModifiers()))
            .sorted((a, b) -> a.getName().compareTo(b.getName())).toArray(Method[]::new);
        for (int run = 0; run < 300; run++) {
            DownhillPost post = new DownhillPost();
            for (int call = 0; call < 512; call++) {
                Method method = call < 60 ? all[growing(all, random)] : all[random.nextInt(all.length)];
                Object[] values = new Object[method.getParameterCount()];
                for (int i = 0; i < values.length; i++) {
                    Class<?> type = method.getParameterTypes()[i];
                    values[i] = type == boolean.class ? (Object) random.nextBoolean()
                        : type == long.class ? (Object) random.nextLong() : (Object) wildInt(random);
                }
                try {
                    method.invoke(post, values);
                    DUE.holds("ends", true);
                } catch (InvocationTargetException thrown) {
                    DUE.holds(method.getName() + Arrays.toString(values) + " threw " + thrown.getCause(), false);
                }
            }
        }
    }

    private static int growing(Method[] all, Random random) {
        String name = new String[] {"village", "road", "send", "sheet"}[random.nextInt(4)];
        for (int i = 0; i < all.length; i++) {
            if (all[i].getName().equals(name)) {
                return i;
            }
        }
        return 0;
    }

    /** A full land, where each call costs most. */
    private static DownhillPost full() {
        DownhillPost post = new DownhillPost();
        for (int i = 0; i < 12; i++) {
            post.village(1100 - 100 * i);
        }
        for (int i = 0; i < 12; i++) {
            post.road(i, (i + 1) % 12, 9);
            post.road(i, (i + 5) % 12, 9);
        }
        for (int i = 0; i < 10; i++) {
            post.send(i % 6, i + 1, i);
        }
        for (int s = 0; s < 4; s++) {
            post.sheet(s, 64, 40);
        }
        post.every(99);
        post.day(1);
        post.image();
        return post;
    }

    private static long allCalls(DownhillPost post) {
        long sum = 0;
        for (int kind = 0; kind < 6; kind++) {
            sum += post.least(kind, 3, 2) + post.reach(kind, 3) + post.whence(kind, 3) + post.below(kind, 0);
            sum += post.round(kind, 2, 3) + post.live(kind, 4095) + post.quiet(kind) + post.kind(4, 3);
            sum += post.rise(kind, 11, 1) + post.fall(kind, 0, 11) + post.dig(kind, 9) + post.needs(kind, 3);
            sum += post.goes(kind, 3, true) + post.table(kind & 3, kind, 2) + post.read(0, kind);
        }
        for (int letter = 0; letter < 10; letter++) {
            sum += post.next(letter) + post.when(letter) + post.on(letter, 200) + post.first(letter, (letter + 1) % 10);
            sum += post.of(letter, 5) + post.as(letter, 2) + post.turn(letter, letter % 6);
        }
        for (int i = 0; i < 6; i++) {
            sum += post.feed(0x76696c6c, 4) + post.feed(0x61676520, 4) + post.feed(0x373b2020, 4);
        }
        sum += post.text() + post.days(200) + post.lays(0) + post.copy(0, 1, 1, 0, 30) + post.write(1, 1, 3);
        sum += post.undo() + post.image() + post.status(-1) + post.now(4) + post.count(4) + post.villageOf(1, 3);
        return sum;
    }

    private static void room() {
        com.sun.management.ThreadMXBean threads = (com.sun.management.ThreadMXBean) ManagementFactory.getThreadMXBean();
        long mine = Thread.currentThread().getId();
        DownhillPost post = full();
        long sum = 0;
        for (int i = 0; i < 20; i++) {
            sum += allCalls(post);
        }
        long before = threads.getThreadAllocatedBytes(mine);
        for (int i = 0; i < 200; i++) {
            sum += allCalls(post);
        }
        long bytes = threads.getThreadAllocatedBytes(mine) - before;
        // The measuring itself takes some; 200 rounds of a single object each would take more than this.
        DUE.holds("200 rounds of calls took " + bytes + " bytes (" + sum + ")", bytes < 3000);
        before = threads.getThreadAllocatedBytes(mine);
        new DownhillPost();
        bytes = threads.getThreadAllocatedBytes(mine) - before;
        DUE.holds("a new object took " + bytes + " bytes", bytes < 8000);
    }
}
