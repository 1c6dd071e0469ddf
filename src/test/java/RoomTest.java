import java.lang.management.ManagementFactory;
import java.lang.reflect.Method;
import java.lang.reflect.Modifier;
import java.util.ArrayList;
import java.util.Arrays;
import java.util.List;
import java.util.Random;

/** Wild calls in any state: none throws, and none makes more than the room that all calls share can bear. */
public final class RoomTest {
    /** Some four bytes an element: 512 such calls make less than a tenth of 7.3 million elements. */
    private static final long MOST_BYTES_A_CALL = 4000;
    private static final long MOST_BYTES_A_NEW_OBJECT = 60000;
    private static final int OBJECTS = 100;
    private static final int CALLS = 512;

    private static final com.sun.management.ThreadMXBean MEMORY =
        (com.sun.management.ThreadMXBean) ManagementFactory.getThreadMXBean();
    private static final Object[] TAKES = new Object[1];
    private static int wrong = 0;

    public static void main(String[] args) throws Exception {
        List<Method> calls = new ArrayList<>();
        for (Method m : ClauseIndex.class.getDeclaredMethods()) {
            if (Modifier.isPublic(m.getModifiers())) calls.add(m);
        }
        calls.sort((a, b) -> a.getName().compareTo(b.getName()));
        for (int seed = 0; seed < OBJECTS; seed++) wild(calls, new Random(seed));
        room();
        hardest();
        System.out.println(wrong == 0 ? "no wild call throws, the room is enough" : wrong + " calls are wrong");
        if (wrong != 0) System.exit(1);
    }

    private static void wild(List<Method> calls, Random random) throws Exception {
        ClauseIndex x = new ClauseIndex();
        String[] texts = {"p(x)", "p(x)|q(x,y)", "", "q(x,y)|q(y,z)|q(z,x)|-r|r", "p(f(f(f(f(x)))))", "x=f(y)", "z=z", "q(a,b)"};
        for (int i = 0; i < CALLS; i++) {
            if (random.nextInt(3) == 0) Talk.feed(x, texts[random.nextInt(texts.length)]);
            Method m = calls.get(random.nextInt(calls.size()));
            Object[] arguments = new Object[m.getParameterCount()];
            for (int k = 0; k < arguments.length; k++) arguments[k] = wildNumber(random);
            try {
                m.invoke(x, arguments);
            } catch (java.lang.reflect.InvocationTargetException e) {
                wrong++;
                System.out.println(m.getName() + Arrays.toString(arguments) + " threw " + e.getCause());
            }
        }
    }

    private static int wildNumber(Random random) {
        switch (random.nextInt(8)) {
            case 0: return random.nextInt();
            case 1: return Integer.MIN_VALUE + random.nextInt(3);
            case 2: return Integer.MAX_VALUE - random.nextInt(3);
            case 3: return random.nextInt(50) - 5;
            default: return random.nextInt(9) - 1;
        }
    }

    private static long bytes() {
        return MEMORY.getThreadAllocatedBytes(Thread.currentThread().getId());
    }

    private static void room() throws Exception {
        TAKES[0] = new ClauseIndex();
        long before = bytes();
        TAKES[0] = new ClauseIndex();
        bound("new ClauseIndex", bytes() - before, MOST_BYTES_A_NEW_OBJECT);
        ClauseIndex x = fullIndex();
        String literal = "q(h(x,y),h(y,x))";
        String text = literal + "|" + literal + "|" + literal + "|" + literal;
        for (int round = 0; round < 2; round++) {
            Talk.feed(x, text);
            before = bytes();
            x.query(text.length());
            bound("query", bytes() - before, MOST_BYTES_A_CALL);
            before = bytes();
            x.factor(24, 0, 1);
            bound("factor", bytes() - before, MOST_BYTES_A_CALL);
            before = bytes();
            allReads(x);
            bound("calls that only tell", bytes() - before, MOST_BYTES_A_CALL);
        }
    }

    private static void allReads(ClauseIndex x) {
        for (int mode = 0; mode < 2; mode++) {
            x.pairs(mode, 1);
            x.rate(mode);
            x.best(mode, 0);
            x.greedy(8, mode);
            x.choose(8, mode);
            x.total(0, mode);
            x.total(1, mode);
            x.chain(mode, -1);
            x.parts(mode);
            x.tops(mode);
            x.forward(mode, -1);
            x.backward(mode, -1);
            x.ways(0, 1, mode);
            x.condensed(0, 1);
            x.clean(mode);
            x.undo(1);
            x.image(mode);
            x.restore(mode);
        }
        x.doubles();
        x.nodes();
    }

    private static void bound(String what, long got, long most) {
        if (got > most) {
            wrong++;
            System.out.println(what + " makes " + got + " bytes, more than " + most);
        }
    }

    private static ClauseIndex fullIndex() {
        ClauseIndex x = new ClauseIndex();
        for (int i = 0; i < 24; i++) {
            Talk.add(x, "q(u,v)|q(v,w)|q(w,x)|q(x,y)|q(" + "yzuvwx".charAt(i % 6) + "," + "uvwxyza".charAt(i % 7) + ")");
        }
        return x;
    }

    /** Rows that nearly meet, so that the search has much to try: it must still end soon. */
    private static void hardest() {
        long start = System.nanoTime();
        for (int i = 0; i < 20; i++) {
            ClauseIndex x = fullIndex();
            for (int round = 0; round < 10; round++) {
                allReads(x);
                x.remove(round);
                x.keep();
            }
        }
        long seconds = (System.nanoTime() - start) / 1000000000L;
        if (seconds > 120) {
            wrong++;
            System.out.println("the hardest calls took " + seconds + " seconds");
        }
    }
}
