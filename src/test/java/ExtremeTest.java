import java.lang.reflect.InvocationTargetException;
import java.lang.reflect.Method;
import java.lang.reflect.Modifier;
import java.util.ArrayList;
import java.util.Comparator;
import java.util.List;
import java.util.NoSuchElementException;
import java.util.Random;

/** Every method with numbers from everywhere, in drawn states: none throws, but jar what it may throw. */
public final class ExtremeTest {
    private static final int[] FAR = {Integer.MIN_VALUE, Integer.MIN_VALUE + 1, -1000001, -1000000, -100, -2, -1, 0, 1, 2, 3,
        4, 5, 6, 9, 10, 40, 41, 60, 61, 63, 64, 99, 100, 101, 200, 999, 1000, 1 << 24, 1 << 30, Integer.MAX_VALUE};

    public static void main(String[] args) throws IllegalAccessException {
        List<Method> methods = new ArrayList<>();
        for (Method method : TightLid.class.getDeclaredMethods()) {
            if (Modifier.isPublic(method.getModifiers())) {
                methods.add(method);
            }
        }
        methods.sort(Comparator.comparing(Method::getName));
        for (int run = 0; run < 200; run++) {
            play(new Random(run), methods);
        }
        hugeNumbersAreRefused();
        Check.end();
    }

    private static void play(Random random, List<Method> methods) throws IllegalAccessException {
        TightLid lid = new TightLid();
        for (int i = 0; i < 512; i++) {
            if (random.nextInt(40) == 0) {
                int sort = random.nextInt(3);
                Check.text(lid, sort, TextMaker.text(random, sort));
            }
            Method method = methods.get(random.nextInt(methods.size()));
            Object[] values = values(random, method);
            try {
                method.invoke(lid, values);
                Check.due(method.getName(), true, true);
            } catch (InvocationTargetException e) {
                boolean may = method.getName().equals("jar") && e.getCause() instanceof NoSuchElementException;
                Check.due(method.getName() + List.of(values) + " threw " + e.getCause(), may, true);
            }
        }
    }

    private static Object[] values(Random random, Method method) {
        Class<?>[] types = method.getParameterTypes();
        Object[] values = new Object[types.length];
        for (int i = 0; i < types.length; i++) {
            if (types[i] == boolean.class) {
                values[i] = random.nextBoolean();
            } else if (types[i] == long.class) {
                values[i] = random.nextLong();
            } else {
                values[i] = random.nextInt(3) == 0 ? FAR[random.nextInt(FAR.length)] : random.nextInt(5) - 1;
            }
        }
        return values;
    }

    private static void hugeNumbersAreRefused() {
        for (int far : new int[] {Integer.MIN_VALUE, -1000000, 1000000, Integer.MAX_VALUE}) {
            TightLid lid = Check.kitchen("j;j;h;h;t;t");
            Check.text(lid, 2, "t;y09");
            lid.pause(1);
            String seen = Check.all(lid);
            Check.due("end", lid.end(far), false);
            Check.due("fault", lid.fault(far), -2);
            Check.due("text", lid.text(far), -1);
            Check.due("jar", Check.jar(lid, far, 0), Check.THROWN);
            Check.due("jar's what", Check.jar(lid, 0, far), Check.THROWN);
            Check.due("hand", lid.hand(far, 0) + lid.hand(0, far), -2);
            Check.due("tool", lid.tool(far, 0) + lid.tool(0, far), -2);
            Check.due("law", lid.law(far), false);
            Check.due("step", lid.step(far, 0) + lid.step(0, far), -2);
            Check.due("grip", lid.grip(far, 0, 0) + lid.grip(0, far, 0) + lid.grip(0, 0, far), -3);
            Check.due("lacks", lid.lacks(far, 0, 0) + lid.lacks(0, far, 0) + lid.lacks(0, 0, far), -3);
            Check.due("turn", lid.turn(far, 0, 0) + lid.turn(0, far, 0) + lid.turn(0, 0, far), -3);
            Check.due("heat, work, pause", lid.heat(far) + lid.work(far) + lid.pause(far), -3);
            Check.due("dry, table", lid.dry(far) || lid.table(far), false);
            Check.due("shut", lid.shut(far), -1);
            Check.due("soonest", lid.soonest(far, true, 0), Check.HIDDEN);
            Check.due("soonest's what", lid.soonest(1, true, far), Check.HIDDEN);
            Check.due("order, run", lid.order(far) + lid.run(far, 0) + lid.run(0, far), -3);
            Check.due("opens, share", lid.opens(far) + lid.share(far), -2);
            Check.due("cheapest", lid.cheapest(far), Check.HIDDEN);
            Check.due("enough", lid.enough(far, 0) + lid.enough(0, far), -2);
            Check.due("saves", lid.saves(far, 0) + lid.saves(0, far), -2);
            Check.due("openers", lid.openers(far, 0) + lid.openers(0, far), -2);
            Check.due("factory", lid.factory(far, 0, 0) + lid.factory(0, far, 0) + lid.factory(0, 0, far), -3);
            Check.due("tried, next", lid.tried(far, true) + lid.next(far), -2);
            Check.due("tight", lid.tight(far), Check.HIDDEN);
            Check.due("who", lid.who(far, 0) + lid.who(0, far), -2);
            Check.due("evening, perform", lid.evening(far, 1L) + lid.perform(far), -2);
            Check.due("log", lid.log(far, 0) + lid.log(0, far), -2);
            Check.due("count", lid.count(far), Check.HIDDEN);
            Check.same("nothing changed", Check.all(lid), seen);
        }
    }
}
