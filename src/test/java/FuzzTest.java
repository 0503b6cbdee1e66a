import java.lang.reflect.InvocationTargetException;
import java.lang.reflect.Method;
import java.util.ArrayList;
import java.util.Arrays;
import java.util.Comparator;
import java.util.List;
import java.util.Random;

/** Runs of chosen calls on the program and on the Oracle; both must answer alike. Arguments: first seed, seeds. */
public final class FuzzTest {
    private static final int CALLS = 512;
    private static final String[] NAMES = {"a", "b", "ab", "zz", "earth", "zzzzzz", "abcdef", "q"};
    private static final String[] WORDS = {"carriers", "station", "rain", "call", "set", "length", "guard",
        "reference", "preamble", "level", "step", "gain", ";", "-", "a", "b", "zz", "abcdefg", "x", "0", "1", "5",
        "9999", "10000", "99999999999999999999", "#", "A", "\t", "\n", "  ", "\u00e9", ".", "+"};

    private final Random random;
    private final SatelliteExchange program = new SatelliteExchange();
    private final Oracle oracle = new Oracle();
    private final List<String> story = new ArrayList<>();
    private final Method[] methods;
    private int calls = 0;

    private FuzzTest(long seed) {
        random = new Random(seed);
        methods = SatelliteExchange.class.getDeclaredMethods();
        Arrays.sort(methods, Comparator.comparing(Method::getName));
    }

    public static void main(String[] args) throws Exception {
        long first = args.length > 0 ? Long.parseLong(args[0]) : 1;
        long seeds = args.length > 1 ? Long.parseLong(args[1]) : 400;
        for (long seed = first; seed < first + seeds; seed++) {
            FuzzTest fuzz = new FuzzTest(seed);
            if (!fuzz.run(seed)) {
                System.out.println("seed " + seed + ":");
                fuzz.story.forEach(System.out::println);
                System.exit(1);
            }
        }
        System.out.println("seeds " + first + " to " + (first + seeds - 1) + " answered alike");
    }

    private boolean run(long seed) throws Exception {
        boolean alike = loadText(seed % 5 == 0 ? 0.9 : 0.1);
        boolean late = seed % 7 == 0;
        for (int i = 0; late && alike && i < 49; i++) {
            alike = same("advance", 200);
        }
        while (alike && calls < CALLS) {
            int kind = random.nextInt(100);
            if (kind < 2 || seed % 5 == 0 && kind < 40) {
                alike = loadText(seed % 5 == 0 ? 0.9 : 0.3);
            } else if (kind < 40) {
                alike = change(late);
            } else {
                alike = any();
            }
        }
        return alike;
    }

    private boolean change(boolean late) throws Exception {
        switch (random.nextInt(9)) {
            case 0:
                return same("release", index(oracle.callCount()));
            case 1:
                return same("advance", random.nextInt(20) == 0 ? pick(0, 200, 201, 199) : 1 + random.nextInt(late ? 30 : 4));
            case 2:
                return same("setSetting", random.nextInt(8), random.nextInt(3) == 0 ? pick(0, 1, 99, 100, 101, 999, 1000, -1)
                        : random.nextInt(400));
            case 3:
                return same("acquire", index(oracle.stationCount()));
            case 4:
                return same("compact");
            case 5:
                return same("undo");
            default:
                return same("request", index(oracle.stationCount()), index(oracle.stationCount()), number(0, 9),
                        random.nextInt(10) == 0 ? number(1, 2000) : 1 + random.nextInt(150),
                        random.nextInt(10) == 0 ? number(1, 9999) : 1 + random.nextInt(12));
        }
    }

    private boolean any() throws Exception {
        Method method = methods[random.nextInt(methods.length)];
        String name = method.getName();
        if (List.of("feed", "load", "advance", "request").contains(name)) {
            return same("errorPosition");
        }
        if (!name.matches("[a-zA-Z]+") || (method.getModifiers() & 1) == 0) {
            return true;
        }
        int[] arguments = new int[method.getParameterCount()];
        for (int i = 0; i < arguments.length; i++) {
            arguments[i] = argument(name, i);
        }
        return same(name, arguments);
    }

    private int argument(String name, int i) {
        if (i == 1) {
            switch (name) {
                case "fade":
                    return random.nextBoolean() ? oracle.now() + random.nextInt(10) : number(0, 9999);
                case "errorAfter":
                case "powerAfter":
                    return random.nextInt(3) == 0 ? number(0, 200) : random.nextInt(30);
                case "callOver":
                    return random.nextInt(8) == 0 ? random.nextInt() : random.nextInt(700);
                case "callAt":
                    return index(4);
                case "fitsWithout":
                    return random.nextInt(4) == 0 ? random.nextInt() : random.nextInt() & random.nextInt() & 0xffff;
                case "setSetting":
                    return random.nextInt(1100) - 50;
                default:
                    return index(oracle.carrierCount());
            }
        }
        switch (name) {
            case "stationNamed":
                return random.nextInt(4) == 0 ? random.nextInt() : packed(NAMES[random.nextInt(NAMES.length)]);
            case "getSetting":
            case "setSetting":
                return index(7);
            case "queuedAt":
                return random.nextInt(20) == 0 ? random.nextInt() : index(oracle.queueLength());
            case "fade":
            case "power":
            case "timingError":
            case "roundTrip":
            case "timingFaults":
            case "loadOf":
            case "errorAfter":
            case "powerAfter":
            case "framesInTime":
            case "acquire":
                return index(oracle.stationCount());
            case "callsOn":
            case "usedSymbols":
            case "callAt":
            case "callOver":
            case "longestFit":
                return index(oracle.carrierCount());
            default:
                return index(oracle.callCount());
        }
    }

    private static int packed(String name) {
        int packed = 0;
        for (int i = 0; i < 6; i++) {
            packed = packed << 5 | (i < name.length() ? name.charAt(i) - 96 : 0);
        }
        return packed;
    }

    /** Mostly an index below a count, now and then one that is not. */
    private int index(int count) {
        return count == 0 || random.nextInt(25) == 0 ? pick(-1, count, count + 1, Integer.MIN_VALUE, Integer.MAX_VALUE)
                : random.nextInt(count);
    }

    private int pick(int... some) {
        return some[random.nextInt(some.length)];
    }

    private int number(int least, int greatest) {
        if (random.nextInt(6) == 0) {
            return pick(least, greatest);
        }
        if (random.nextInt(40) == 0) {
            return pick(least - 1, greatest + 1);
        }
        return least + random.nextInt(greatest - least + 1);
    }

    // Texts

    private boolean loadText(double faulty) throws Exception {
        StringBuilder text = new StringBuilder(text());
        if (random.nextDouble() < faulty) {
            spoil(text);
        }
        byte[] bytes = text.toString().getBytes(java.nio.charset.StandardCharsets.ISO_8859_1);
        boolean alike = true;
        for (int i = 0; i < bytes.length && alike; i += 20) {
            int[] words = new int[5];
            for (int k = 0; k < 20; k++) {
                words[k / 4] = words[k / 4] << 8 | (i + k < bytes.length ? bytes[i + k] & 255 : 32);
            }
            alike = same("feed", words);
        }
        int length = Math.min(bytes.length, 1000);
        if (random.nextInt(30) == 0) {
            length = pick(-1, length + 20, length - 1, 0, length / 2, length + 1);
        }
        alike = alike && same("load", length) && same("errorPosition");
        return alike;
    }

    private String text() {
        StringBuilder text = new StringBuilder();
        int stations = random.nextInt(8) == 0 ? random.nextInt(8) : 2 + random.nextInt(4);
        if (random.nextInt(4) != 0) {
            text.append("carriers ").append(number(1, 4)).append(';');
        }
        text.append("set length ").append(random.nextInt(10) == 0 ? number(200, 5000) : 200 + random.nextInt(500)).append(';');
        String[] settings = {"guard", "reference", "preamble", "level", "step", "gain"};
        int[] most = {20, 100, 40, 400, 100, 100};
        for (int i = 0; i < 6; i++) {
            if (random.nextInt(3) != 0) {
                text.append("set ").append(settings[i]).append(' ').append(number(1, most[i])).append("; ");
            }
        }
        for (int i = 0; i < stations; i++) {
            int power = 250 + random.nextInt(150);
            text.append("station ").append(NAMES[i % NAMES.length]).append(' ').append(number(0, 5000)).append(' ')
                    .append(random.nextBoolean() ? "-" : "").append(random.nextInt(3) == 0 ? number(0, 50) : random.nextInt(5))
                    .append(' ').append(power).append(' ').append(power + random.nextInt(200)).append(';');
        }
        for (int i = random.nextInt(9); i > 0 && stations > 0; i--) {
            int first = random.nextInt(12) == 0 ? number(0, 9000) : random.nextInt(20);
            text.append("rain ").append(NAMES[random.nextInt(stations) % NAMES.length]).append(' ').append(first)
                    .append(' ').append(first + random.nextInt(random.nextInt(4) == 0 ? 300 : 10)).append(' ')
                    .append(random.nextInt(4) == 0 ? number(1, 400) : 1 + random.nextInt(90)).append(";\n");
        }
        for (int i = random.nextInt(18); i > 0 && stations > 1 && text.length() < 960; i--) {
            int sender = random.nextInt(stations);
            int receiver = random.nextInt(50) == 0 ? sender : (sender + 1 + random.nextInt(stations - 1)) % stations;
            text.append("call ").append(NAMES[sender % NAMES.length]).append(' ').append(NAMES[receiver % NAMES.length])
                    .append(' ').append(number(0, 9)).append(' ').append(1 + random.nextInt(200)).append(' ')
                    .append(random.nextInt(10) == 0 ? number(1, 9999) : 1 + random.nextInt(40)).append(';');
        }
        return text.toString();
    }

    private void spoil(StringBuilder text) {
        for (int i = 1 + random.nextInt(2); i > 0; i--) {
            int at = random.nextInt(text.length() + 1);
            switch (random.nextInt(5)) {
                case 0:
                    text.insert(at, WORDS[random.nextInt(WORDS.length)]);
                    break;
                case 1:
                    text.insert(at, " " + WORDS[random.nextInt(WORDS.length)] + " ");
                    break;
                case 2:
                    text.delete(at, Math.min(text.length(), at + 1 + random.nextInt(4)));
                    break;
                case 3:
                    swapTokens(text);
                    break;
                default:
                    moveStatement(text);
                    break;
            }
        }
    }

    private void swapTokens(StringBuilder text) {
        String[] tokens = text.toString().split("(?<=[ ;])");
        int i = random.nextInt(tokens.length);
        tokens[i] = random.nextBoolean() ? tokens[random.nextInt(tokens.length)]
                : WORDS[random.nextInt(WORDS.length)] + " ";
        text.setLength(0);
        text.append(String.join("", tokens));
    }

    private void moveStatement(StringBuilder text) {
        List<String> statements = new ArrayList<>(Arrays.asList(text.toString().split("(?<=;)")));
        String moved = statements.get(random.nextInt(statements.size()));
        statements.add(random.nextInt(statements.size() + 1), moved);
        text.setLength(0);
        text.append(String.join("", statements));
    }

    // Comparing

    private boolean same(String name, int... arguments) throws Exception {
        calls++;
        String got = answer(program, name, arguments);
        String due = answer(oracle, name, arguments);
        story.add(name + Arrays.toString(arguments) + " = " + got);
        if (!got.equals(due)) {
            story.add("   due is " + due);
        }
        return got.equals(due);
    }

    private static String answer(Object on, String name, int... arguments) throws Exception {
        Class<?>[] types = new Class<?>[arguments.length];
        Object[] values = new Object[arguments.length];
        for (int i = 0; i < arguments.length; i++) {
            types[i] = int.class;
            values[i] = arguments[i];
        }
        try {
            return String.valueOf(on.getClass().getMethod(name, types).invoke(on, values));
        } catch (InvocationTargetException e) {
            Throwable cause = e.getCause();
            return "throws." + (cause instanceof IndexOutOfBoundsException && on instanceof Oracle
                    ? "IndexOutOfBoundsException" : cause.getClass().getSimpleName());
        }
    }
}
