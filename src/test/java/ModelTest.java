import java.lang.reflect.InvocationTargetException;
import java.lang.reflect.Method;
import java.util.ArrayList;
import java.util.Arrays;
import java.util.HashMap;
import java.util.List;
import java.util.Map;
import java.util.Random;

/** Runs of calls by fixed seeds, each answered by FrostDebts and by PlainModel: both must tell the same. */
public final class ModelTest {
    private static final int RUNS = 1500, MOST_CALLS = 512;
    /** For each call the least and the greatest of each of its numbers that is as told. */
    private static final String[] RANGES = {
        "type 0 2 0 255", "wipe 0 2", "undo 0 2", "fault 0 2", "place 0 7 0 1", "warm 0 39", "debt 0 8 0 4",
        "zero 0 25", "cloud 0 39", "smoke 0 39 0 7", "ice 0 39 0 7", "back 0 2", "warmth 0 39 0 7",
        "freezes 0 39 0 7", "first 0 7", "had 0 39", "stands 0 8 0 39", "lasts 0 8 0 1", "never",
        "owes 0 5 0 39 0 1", "hangs 0 39", "free 0 5 0 39", "where 0 8 0 1 0 1", "keep 0 7 0 39 -1 39",
        "carry 0 5 0 39 -1 2", "seen 0 39 0 7 0 1", "forget", "read 0 3", "was 0 39", "carried", "ask 0 39",
        "chance 0 16 0 7 0 11 0 1", "year -2147483648 2147483647 -1 7", "sheet 0 3 0 2 0 48", "lose 0 3",
        "put 0 3 0 2 0 47 -70000 70000", "get 0 3 0 2 0 47", "copy 0 3 0 47 0 3 0 47 0 48", "write 0 1 0 3",
        "count 0 8", "digest",
    };
    /** These undo what was told, so they come seldom. */
    private static final List<String> SELDOM = List.of("wipe", "undo", "back", "forget", "lose", "zero", "digest");

    private final Random random;
    private final FrostDebts built = new FrostDebts();
    private final PlainModel model = new PlainModel();
    private final List<String> calls = new ArrayList<>();
    private static final Map<String, Method> BUILT = methods(FrostDebts.class);
    private static final Map<String, Method> MODEL = methods(PlainModel.class);
    private boolean isWrong = false;

    private ModelTest(long seed) {
        random = new Random(seed);
    }

    private static Map<String, Method> methods(Class<?> type) {
        Map<String, Method> methods = new HashMap<>();
        for (Method method : type.getDeclaredMethods()) {
            if (java.lang.reflect.Modifier.isPublic(method.getModifiers())) methods.put(method.getName(), method);
        }
        return methods;
    }

    private static long answer(Method method, Object of, Object[] numbers) {
        try {
            return ((Number) method.invoke(of, numbers)).longValue();
        } catch (InvocationTargetException | IllegalAccessException thrown) {
            throw new IllegalStateException(method.getName() + Arrays.toString(numbers), thrown);
        }
    }

    private void call(String name, Object... numbers) {
        if (calls.size() >= MOST_CALLS || isWrong) return;
        String told = name + Arrays.toString(numbers);
        calls.add(told);
        long want = answer(MODEL.get(name), model, numbers);
        long got = answer(BUILT.get(name), built, numbers);
        if (got != want) {
            isWrong = true;
            System.out.println(told + " answered " + got + ", the model " + want + ", behind " + calls);
        }
    }

    private int number(int least, int most) {
        int chance = random.nextInt(60);
        if (chance == 0) return random.nextBoolean() ? least - 1 : most + 1;
        if (chance == 1) return new int[] {-2, -1, Integer.MIN_VALUE, Integer.MAX_VALUE, 48, 49}[random.nextInt(6)];
        if (chance < 8) return random.nextBoolean() ? least : most;
        return (int) (least + Math.floorMod(random.nextLong(), (long) most - least + 1));
    }

    private void anyCall() {
        String[] range = RANGES[random.nextInt(RANGES.length)].split(" ");
        if (SELDOM.contains(range[0]) && random.nextInt(6) != 0) return;
        if (range[0].equals("type") && random.nextInt(4) != 0) return;
        Object[] numbers = new Object[range.length / 2];
        for (int i = 0; i < numbers.length; i++) {
            numbers[i] = number(Integer.parseInt(range[2 * i + 1]), Integer.parseInt(range[2 * i + 2]));
        }
        call(range[0], numbers);
    }

    private char oneOf(String signs) {
        return signs.charAt(random.nextInt(signs.length()));
    }

    private String placesText() {
        StringBuilder text = new StringBuilder();
        for (int left = 1 + random.nextInt(8); left > 0; left--) {
            text.append(text.length() == 0 ? "" : ";").append(oneOf("0123456789")).append(oneOf("ohws"));
        }
        return text.toString();
    }

    private String nightsText() {
        StringBuilder text = new StringBuilder();
        String signs = new String[] {"abcdefghijklmnopqrstuvwxyz", "hijklmn", "nopqrstuvwxyz"}[random.nextInt(3)];
        for (int left = random.nextInt(4) == 0 ? 40 : 1 + random.nextInt(40); left > 0; left--) text.append(oneOf(signs));
        return text.toString();
    }

    private String debtsText() {
        StringBuilder text = new StringBuilder();
        String persons = random.nextBoolean() ? "abcdef" : "ab";
        String tens = random.nextBoolean() ? "0" : "0123";
        for (int left = 1 + random.nextInt(9); left > 0; left--) {
            text.append(text.length() == 0 ? "" : ";").append(oneOf(persons)).append(oneOf(persons));
            text.append(oneOf("0123456789")).append(oneOf("123456789")).append(oneOf("01234567"));
            text.append(oneOf(tens)).append(oneOf("0123456789"));
        }
        return text.toString();
    }

    private void typeText(int text, String signs) {
        int spoiled = random.nextInt(8) == 0 ? random.nextInt(signs.length()) : -1;
        for (int i = 0; i < signs.length(); i++) {
            call("type", text, i == spoiled ? (int) oneOf("0089;agzo:") : (int) signs.charAt(i));
        }
        call("fault", text);
    }

    private boolean isWell() {
        if (random.nextInt(10) != 0) typeText(0, placesText());
        if (random.nextInt(10) != 0) typeText(1, nightsText());
        if (random.nextInt(10) != 0) typeText(2, debtsText());
        for (int left = random.nextInt(10); left > 0; left--) call("smoke", number(0, 39), number(0, 7));
        for (int s = 0; s < 4; s++) if (random.nextInt(3) != 0) call("sheet", s, number(0, 2), number(0, 48));
        int length = 300 + random.nextInt(300);
        for (int i = 0; i < 3 * length && calls.size() < length; i++) anyCall();
        call("digest");
        return !isWrong;
    }

    public static void main(String[] args) {
        int wrong = 0;
        long calls = 0;
        for (int run = 0; run < RUNS; run++) {
            ModelTest test = new ModelTest(run);
            if (!test.isWell()) wrong++;
            calls += test.calls.size();
            if (wrong >= 5) break;
        }
        System.out.println(calls + " calls in runs by " + RUNS + " seeds, " + wrong + " runs wrong");
        if (wrong != 0) System.exit(1);
    }
}
