import java.lang.reflect.InvocationTargetException;
import java.lang.reflect.Method;
import java.lang.reflect.Modifier;
import java.util.ArrayList;
import java.util.Arrays;
import java.util.Comparator;
import java.util.List;
import java.util.Random;

/** Makes the same calls on ColourOffice and on PlainOffice, run by run with fixed seeds, and compares all answers. */
public final class RandomRunsTest {
    private static final int RUNS = 900;
    private static final int CALLS = 512;
    private static final int[] PARTS = {0, 1, 10, 20, 40, 49, 50, 51, 52, 60, 80, 99};
    private static final int[] TOLERANCES = {0, 5, 20, 40, 100, 500, 9999};
    private static final int[] ODD = {-1, 100, 10000, Integer.MAX_VALUE, Integer.MIN_VALUE};

    private static final Checks CHECKS = new Checks();
    private static final List<Method> CALLABLE = callable();

    private final Random random;
    private final ColourOffice office = new ColourOffice();
    private final PlainOffice plain = new PlainOffice();
    private final List<String> story = new ArrayList<>();
    private int calls;

    private RandomRunsTest(long seed) {
        random = new Random(seed);
    }

    public static void main(String[] args) throws ReflectiveOperationException {
        for (int run = 0; run < RUNS && CHECKS.allWell(); run++) {
            new RandomRunsTest(run).run();
        }
        CHECKS.end("RandomRunsTest");
    }

    private static List<Method> callable() {
        List<Method> methods = new ArrayList<>();
        for (Method method : ColourOffice.class.getDeclaredMethods()) {
            if (Modifier.isPublic(method.getModifiers())) {
                methods.add(method);
            }
        }
        methods.sort(Comparator.comparing(Method::getName));
        return methods;
    }

    private void run() throws ReflectiveOperationException {
        // Every run has a leaning of its own, so that some fill the office and others empty it or stay at scripts.
        int filling = random.nextInt(40);
        int scripting = random.nextInt(6);
        while (calls < CALLS && CHECKS.allWell()) {
            int lot = random.nextInt(100);
            if (lot < filling) {
                call(random.nextBoolean() ? "addColour" : "report");
            } else if (lot < filling + scripting) {
                script();
            } else {
                call(CALLABLE.get(random.nextInt(CALLABLE.size())));
            }
        }
    }

    private void call(String name) throws ReflectiveOperationException {
        for (Method method : CALLABLE) {
            if (method.getName().equals(name)) {
                call(method);
            }
        }
    }

    private void call(Method method) throws ReflectiveOperationException {
        Class<?>[] types = method.getParameterTypes();
        Object[] arguments = new Object[types.length];
        for (int index = 0; index < types.length; index++) {
            arguments[index] = types[index] == char.class ? character(method.getName())
                    : (Object) number(method.getName(), index);
        }
        call(method, arguments);
    }

    private void call(Method method, Object... arguments) throws ReflectiveOperationException {
        Method twin = PlainOffice.class.getMethod(method.getName(), method.getParameterTypes());
        Object got = answer(office, method, arguments);
        Object due = answer(plain, twin, arguments);
        calls++;
        story.add(method.getName() + Arrays.toString(arguments) + " -> " + due);
        if (!got.equals(due)) {
            CHECKS.fail(String.join("\n", story) + "\nthe last call answered " + got);
        } else {
            CHECKS.same("a call", got, due);
        }
    }

    private static Object answer(Object object, Method method, Object[] arguments) throws ReflectiveOperationException {
        try {
            return method.invoke(object, arguments);
        } catch (InvocationTargetException thrown) {
            return "throws " + thrown.getCause().getClass().getName();
        }
    }

    private char character(String name) {
        if (name.equals("setMetric")) {
            return random.nextInt(5) == 0 ? (char) random.nextInt(65536) : metric();
        }
        return (char) (random.nextInt(20) == 0 ? random.nextInt(65536) : ' ' + random.nextInt(95));
    }

    private char metric() {
        return "msg".charAt(random.nextInt(3));
    }

    private int number(String name, int index) {
        if (random.nextInt(50) == 0) {
            return ODD[random.nextInt(ODD.length)];
        }
        return switch (name) {
            case "addColour" -> index < 3 ? part() : 1 + random.nextInt(9);
            case "report" -> index < 3 ? part() : index == 3 ? tolerance() : 1 + random.nextInt(4) * 7;
            case "nearest", "nearestByLooking" -> part();
            case "passDays" -> 1 + random.nextInt(random.nextInt(4) == 0 ? 99 : 5);
            case "outputAt" -> random.nextInt(20);
            case "paletteError", "paletteErrorBySearch", "paletteColour" -> random.nextInt(index == 0 ? 12 : 6);
            case "colourAt", "colourByBrightness", "reportAt" -> random.nextInt(7) - random.nextInt(2);
            case "withdraw", "toleranceOf", "rewardOf", "nearestFor", "settlementFor", "renderReport" -> report();
            case "giveBack", "distanceFor", "fits" -> index == 0 ? report() : colour();
            default -> colour();
        };
    }

    private int part() {
        return random.nextInt(3) == 0 ? random.nextInt(100) : PARTS[random.nextInt(PARTS.length)];
    }

    private int tolerance() {
        return TOLERANCES[random.nextInt(TOLERANCES.length)];
    }

    private int colour() {
        int count = plain.colourCount();
        return count == 0 || random.nextInt(12) == 0 ? random.nextInt(30) : plain.colourAt(random.nextInt(count));
    }

    private int report() {
        int count = plain.reportCount();
        return count == 0 || random.nextInt(12) == 0 ? random.nextInt(20) : plain.reportAt(random.nextInt(count));
    }

    private void script() throws ReflectiveOperationException {
        StringBuilder script = new StringBuilder(command());
        for (int more = random.nextInt(5); more > 0; more--) {
            script.append(';').append(command());
        }
        spoil(script);
        // What an earlier call has typed would make nearly every script wrong.
        if (random.nextInt(10) != 0) {
            call("runScript");
        }
        for (int index = 0; index < script.length() && index < 60; index++) {
            call(ColourOffice.class.getMethod("type", char.class), script.charAt(index));
        }
        for (String name : List.of("runScript", "errorPosition", "failedCommand", "failureKind", "day", "coins",
                "colourCount", "reportCount", "metric", "returnedTotal")) {
            call(name);
        }
    }

    private String command() {
        return switch (random.nextInt(10)) {
            case 0 -> "find " + part() + "/" + part() + "/" + part() + " " + random.nextInt(11);
            case 1 -> "report " + part() + "/" + part() + "/" + part() + " " + tolerance() + " " + random.nextInt(101);
            case 2 -> "drop " + report();
            case 3 -> "discard " + colour();
            case 4 -> "metric " + metric();
            case 5 -> giveBackCommand();
            case 6 -> "settle";
            case 7 -> "mix " + colour() + " " + colour();
            case 8 -> "day";
            default -> "day " + random.nextInt(12);
        };
    }

    private String giveBackCommand() {
        int report = report();
        try {
            return "return " + report + " " + plain.nearestFor(report);
        } catch (RuntimeException none) {
            return "return " + report + " " + colour();
        }
    }

    // Drops, doubles or changes a sign, or cuts the end off.
    private void spoil(StringBuilder script) {
        if (random.nextInt(3) != 0) {
            return;
        }
        int at = random.nextInt(script.length());
        switch (random.nextInt(4)) {
            case 0 -> script.deleteCharAt(at);
            case 1 -> script.insert(at, script.charAt(at));
            case 2 -> script.setCharAt(at, "0123456789/ ;abcdefgimrsty".charAt(random.nextInt(26)));
            default -> script.setLength(at);
        }
    }
}
