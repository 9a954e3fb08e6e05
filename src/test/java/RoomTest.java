import com.sun.management.ThreadMXBean;
import java.lang.management.ManagementFactory;
import java.lang.reflect.Method;
import java.util.Arrays;
import java.util.Comparator;
import java.util.Random;

/** No call throws, whatever its arguments, and none makes anything: a run has but one room. */
public final class RoomTest {
    private static final int CALLS = 512;

    private RoomTest() {
    }

    public static void main(String[] args) throws ReflectiveOperationException {
        Checker checker = new Checker();
        wildCalls(checker);
        room(checker);
        checker.finish();
    }

    /** Any calls in any order, with numbers of every size: a throw ends this test with its trace. */
    private static void wildCalls(Checker checker) throws ReflectiveOperationException {
        Method[] face = Arrays.stream(KeyPath.class.getDeclaredMethods())
                .filter(m -> java.lang.reflect.Modifier.isPublic(m.getModifiers())).toArray(Method[]::new);
        Arrays.sort(face, Comparator.comparing(Method::getName));
        Random random = new Random(7);
        long called = 0;
        for (int run = 0; run < 300; run++) {
            KeyPath x = new KeyPath();
            for (int i = 0; i < CALLS; i++) {
                Method method = face[random.nextInt(face.length)];
                Object[] numbers = new Object[method.getParameterCount()];
                for (int n = 0; n < numbers.length; n++) {
                    numbers[n] = number(random);
                }
                int answer = (Integer) method.invoke(x, numbers);
                called += answer >= -34 ? 1 : 0;
            }
        }
        checker.due("answers that can be", called, 300L * CALLS);
    }

    private static int number(Random random) {
        int[] edges = {Integer.MIN_VALUE, Integer.MAX_VALUE, Integer.MIN_VALUE + 1, -1, -2, 0, 1, 12, 24, 48, 64, 100,
            128, 512, 700};
        int kind = random.nextInt(10);
        if (kind == 0) {
            return random.nextInt();
        }
        return kind == 1 ? edges[random.nextInt(edges.length)] : random.nextInt(kind < 6 ? 8 : 130);
    }

    private static void room(Checker checker) {
        ThreadMXBean threads = (ThreadMXBean) ManagementFactory.getThreadMXBean();
        long self = Thread.currentThread().getId();
        KeyPath warm = new KeyPath();
        dearRun(warm);
        long before = threads.getThreadAllocatedBytes(self);
        KeyPath x = new KeyPath();
        long made = threads.getThreadAllocatedBytes(self);
        int sum = dearRun(x);
        long after = threads.getThreadAllocatedBytes(self);
        System.out.println("an object takes " + (made - before) + " bytes, its calls " + (after - made)
                + " (sum of answers " + sum + ")");
        checker.due("an object is small", made - before < 80000 ? 1 : 0, 1);
        checker.due("calls make nothing", after - made < 2000 ? 1 : 0, 1);
    }

    private static int dearRun(KeyPath x) {
        int sum = 0;
        for (int i = 0; i < 96; i++) {
            sum += x.put(4 * (i % 48), 4, 40 + i * 7 % 40);
        }
        x.windows(4, 4);
        for (int i = 0; i < 13; i++) {
            sum += x.weight(i % 2, i % 12, i) + x.feed(1, 2, 3, 4, 5) + x.load(3);
            sum += x.shift(i % 3 - 1) + x.drop(i) + x.undo() + x.net(i, 2 * i, i, 2);
            sum += x.cost() + x.ties() + x.second(0) + x.second(1) + x.unsure(i, 100) + x.through(i, i);
            sum += x.within(i) + x.lasting(1 + i) + x.firm() + x.segments() + x.segment(0, 1) + x.pivot(0, 0);
            sum += x.roman(i) + x.outside() + x.progression(-1) + x.confirmed(0) + x.learnt(0, 0);
            sum += x.foreign(i, i) + x.close() + x.way(0, i, 2) + x.distance(0, i) + x.name(i, 1);
        }
        return sum;
    }
}
