import java.lang.management.ManagementFactory;
import java.lang.reflect.InvocationTargetException;
import java.lang.reflect.Method;
import java.lang.reflect.Modifier;
import java.util.ArrayList;
import java.util.Arrays;
import java.util.Comparator;
import java.util.List;
import java.util.NoSuchElementException;
import java.util.Random;

/** Any arguments in any state: nothing is thrown but what the document says; refused calls change nothing; the room. */
final class NeverThrowsTest {
    private static final Due DUE = new Due("never throws");
    private static final String[] TEXTS = {"33", "66", "46", "001190;111130;221251", "0", "o+1", "(s-a)*n", "(((((",
        "p001150n3t01s09m01", "n9m00", "551110", "1/0", "-", "999*999*999*999", "p002290p222290"};

    public static void main(String[] args) throws IllegalAccessException {
        List<Method> methods = new ArrayList<>();
        for (Method m : FieldKeepsCamps.class.getDeclaredMethods()) {
            if (Modifier.isPublic(m.getModifiers())) {
                methods.add(m);
            }
        }
        methods.sort(Comparator.comparing(Method::getName));
        for (int run = 0; run < 300; run++) {
            anyCalls(methods, new Random(run));
        }
        room();
        DUE.finish();
    }

    private static void anyCalls(List<Method> methods, Random random) throws IllegalAccessException {
        FieldKeepsCamps x = new FieldKeepsCamps();
        for (int i = 0; i < 512; i++) {
            if (random.nextInt(4) == 0) {
                Due.tell(x, TEXTS[random.nextInt(TEXTS.length)]);
            }
            Method m = methods.get(random.nextInt(methods.size()));
            Object[] args = new Object[m.getParameterCount()];
            for (int k = 0; k < args.length; k++) {
                args[k] = number(random);
            }
            long[] before = state(x);
            try {
                Object answer = m.invoke(x, args);
                boolean refused = answer.equals(-1) && !m.getName().equals("law") && !m.getName().equals("cell")
                        || answer.equals(false);
                if (refused) {
                    DUE.is(m.getName() + Arrays.toString(args) + " is refused and changes nothing",
                            Arrays.equals(before, state(x)), true);
                }
            } catch (InvocationTargetException e) {
                boolean may = m.getExceptionTypes().length > 0 && e.getCause() instanceof NoSuchElementException;
                DUE.is(m.getName() + Arrays.toString(args) + " threw " + e.getCause(), may, true);
                DUE.is("state behind it", Arrays.equals(before, state(x)), true);
            }
        }
    }

    private static int number(Random random) {
        int[] edges = {Integer.MIN_VALUE, Integer.MAX_VALUE, Integer.MIN_VALUE + 1, -1, -2, 31, 32, 36, 63, 64, 255, 256};
        int kind = random.nextInt(20);
        if (kind == 0) {
            return random.nextInt();
        }
        return kind == 1 ? edges[random.nextInt(edges.length)] : random.nextInt(kind < 12 ? 4 : 12);
    }

    /** All that can be asked without a change, but for THE TEXT. */
    private static long[] state(FieldKeepsCamps x) {
        long[] of = new long[11 + 8 * 8 + 128];
        for (int what = 0; what < 11; what++) {
            of[what] = x.count(what);
        }
        for (int i = 0; i < 8 * x.count(2); i++) {
            of[11 + i] = x.camp(i / 8, i % 8);
        }
        for (int i = 0; i < x.count(10); i++) {
            of[11 + 64 + i] = x.row(i);
        }
        return of;
    }

    /** 512 of the dearest calls make next to nothing new: a run lives in one room. */
    private static void room() {
        com.sun.management.ThreadMXBean threads = (com.sun.management.ThreadMXBean) ManagementFactory.getThreadMXBean();
        long me = Thread.currentThread().getId();
        FieldKeepsCamps warm = Due.with("66", "003390");
        warm.meets(0, 35, 1);
        long begin = threads.getThreadAllocatedBytes(me);
        FieldKeepsCamps x = new FieldKeepsCamps();
        long made = threads.getThreadAllocatedBytes(me) - begin;
        DUE.is("a new object takes " + made + " bytes", made < 100_000, true);
        Due.field(x, "66");
        Due.camps(x, "003390;003390;333390;333390;111190;222290;441110;051190");
        begin = threads.getThreadAllocatedBytes(me);
        for (int i = 0; i < 64; i++) {
            x.meets(i % 36, 35, 255);
            x.soft(i % 36, 0);
            x.laws();
            x.watch();
            x.clears(0);
            x.drawn(i, 60);
            x.largest();
            x.fence(40);
        }
        long taken = threads.getThreadAllocatedBytes(me) - begin;
        DUE.is("512 calls take " + taken + " bytes", taken < 50_000, true);
    }
}
