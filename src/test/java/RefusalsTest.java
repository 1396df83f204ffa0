import java.lang.reflect.Method;
import java.util.ArrayList;
import java.util.Arrays;
import java.util.HashMap;
import java.util.List;
import java.util.Map;

/**
 * Each call, in an empty, a middling and a full object: the last number that is taken and the first
 * that is refused, at both ends; which refusal comes first; and that a refused call changes nothing.
 */
public final class RefusalsTest {
    private static final int BAD = -2, NOT = -3, FULL = -4;
    private static final int LEAST = Integer.MIN_VALUE, MOST = Integer.MAX_VALUE;
    private static final int MOST_CALLS = 512;
    /** P, N and D stand for the last place, night and debt that there is; * for a number that may be any. */
    private static final String[] TAKEN = {
        "type 0 2 0 255", "wipe 0 2", "undo 0 2", "fault 0 2", "place 0 P 0 1", "warm 0 N", "debt 0 D 0 4", "zero 0 25",
        "cloud 0 39", "smoke 0 39 0 7", "ice 0 39 0 7", "back 0 2", "warmth 0 N 0 P", "freezes 0 N 0 P", "first 0 P",
        "had 0 39", "stands 0 D 0 39", "lasts 0 D 0 1", "owes 0 5 0 39 0 1", "hangs 0 39", "free 0 5 0 39",
        "where 0 D 0 1 0 1", "keep 0 P 0 39 -1 39", "carry 0 5 0 N -1 2", "seen 0 39 0 7 0 1", "read 0 3", "was 0 N",
        "ask 0 N", "chance 0 16 0 P 0 11 0 1", "year * * -1 P", "sheet 0 3 0 2 * 48", "lose 0 3", "put 0 3 0 2 * * * *",
        "get 0 3 0 2 * *", "copy 0 3 * * 0 3 * * * *", "write 0 1 0 3", "count 0 8",
    };
    private static final Map<String, Method> CALLS = calls();
    private static int checks = 0;
    private static int wrong = 0;

    /** How an object is made, and what there is in it. */
    private record State(String name, int places, int nights, int debts) {
    }

    private static final State EMPTY = new State("empty", 0, 0, 0);
    private static final State SOME = new State("some", 5, 12, 6);
    private static final State MOST_OF_ALL = new State("full", 8, 40, 9);

    private final FrostDebts x = new FrostDebts();
    private int made = 0;

    private static Map<String, Method> calls() {
        Map<String, Method> calls = new HashMap<>();
        for (Method method : FrostDebts.class.getDeclaredMethods()) {
            if (java.lang.reflect.Modifier.isPublic(method.getModifiers())) calls.put(method.getName(), method);
        }
        return calls;
    }

    private static void due(String what, Object got, Object want) {
        checks++;
        if (got.equals(want)) return;
        wrong++;
        System.out.println(what + " answered " + got + ", due is " + want);
    }

    private long call(String name, Object... numbers) {
        made++;
        if (made > MOST_CALLS) throw new IllegalStateException("a test makes more calls than the document promises");
        try {
            return ((Number) CALLS.get(name).invoke(x, numbers)).longValue();
        } catch (ReflectiveOperationException thrown) {
            throw new IllegalStateException(name + Arrays.toString(numbers), thrown);
        }
    }

    private void typeAll(int text, String signs) {
        for (int i = 0; i < signs.length(); i++) call("type", text, (int) signs.charAt(i));
    }

    // ---- the three objects

    private RefusalsTest(State state) {
        if (state == SOME) makeSome();
        if (state == MOST_OF_ALL) makeFull();
    }

    /** Sheets 0 to 2 are of form 0 to 2, sheet 3 is lost. */
    private void makeSheets(int items) {
        for (int s = 0; s < 3; s++) {
            call("sheet", s, s, items);
            call("put", s, s, 0, 40 + s);
            call("put", s, s, items - 1, 50 + s);
        }
    }

    private void makeSome() {
        typeAll(0, "0o;5o;3h;2w;0s");
        typeAll(1, "pnlljhgfedcb");
        typeAll(2, "ab10000;bc20103;ca05202;ad30309;de40400;ef07701");
        call("zero", 7);
        for (int i = 0; i < 2; i++) {
            call("cloud", 6 + i);
            call("smoke", 8, i);
            call("ice", 9 + i, 4);
            call("seen", 10 + i, 3, i);
        }
        makeSheets(3);
        call("sheet", 0, 0, -1);
    }

    private void makeFull() {
        typeAll(0, "0o;1h;2w;3s;4o;5h;6w;9s");
        typeAll(1, "zyxwvutsrqponmlkjihgfedcbaabcdefghijklmn");
        typeAll(2, "ab01000;bc02101;cd03202;de04303;ef05404;fa06505;aa07606;bb98738;ff99739");
        for (int i = 0; i < 8; i++) {
            call("cloud", 2 * i);
            call("smoke", 20 + i, i);
            call("ice", 30 + i, i);
            call("seen", i, i, 0);
        }
        makeSheets(48);
        call("sheet", 0, 0, -1);
    }

    // ---- all that can be seen of an object, in four parts, as a call may be one of 512 alone

    private List<Long> sheetsAndCounts() {
        List<Long> all = new ArrayList<>();
        for (int what = 0; what < 8; what++) all.add(call("count", what));
        all.add(call("digest"));
        for (int s = 0; s < 3; s++) {
            for (int i = 0; i < 48; i++) all.add(call("get", s, s, i));
        }
        for (int s = 0; s < 4; s++) all.add(call("lose", s));
        all.add(call("zero", 6));
        return all;
    }

    private List<Long> whatWasSeen() {
        List<Long> all = new ArrayList<>();
        for (int night = 0; night < 40; night++) all.add(call("was", night));
        for (int night = 0; night < 40; night++) all.add(call("ask", night));
        all.add(call("carried"));
        all.add(call("forget"));
        all.add(call("digest"));
        return all;
    }

    private List<Long> marks() {
        List<Long> all = new ArrayList<>();
        for (int what = 0; what < 3; what++) {
            long left = 0;
            for (int i = 0; i < 9 && left >= 0; i++) {
                left = call("back", what);
                all.add(left);
                all.add(call("digest"));
            }
        }
        return all;
    }

    private List<Long> texts() {
        List<Long> all = new ArrayList<>();
        for (int text = 2; text >= 0; text--) {
            long left = 0;
            for (int i = 0; i < 72 && left >= 0; i++) {
                left = call("undo", text);
                all.add(left);
                if (i % 2 == 0) all.add(call("digest"));
            }
        }
        return all;
    }

    private List<Long> part(int part) {
        return part == 0 ? sheetsAndCounts() : part == 1 ? whatWasSeen() : part == 2 ? marks() : texts();
    }

    /** Some refused calls, each with its answer and the finding that it leaves (0: as it was). */
    private record Refused(String name, Object[] numbers, long answer, int finding) {
        String told() {
            return name + Arrays.toString(numbers);
        }
    }

    private static void refuseAll(State state, List<Refused> refused) {
        for (int part = 0; part < 4; part++) {
            RefusalsTest asked = new RefusalsTest(state);
            RefusalsTest left = new RefusalsTest(state);
            for (Refused one : refused) {
                long answer = asked.call(one.name, one.numbers);
                due(state.name + ": " + one.told(), answer, one.answer);
            }
            due(state.name + ": all but count 8 behind " + refused.get(0).name, asked.part(part), left.part(part));
        }
        RefusalsTest asked = new RefusalsTest(state);
        long finding = asked.call("count", 8);
        for (Refused one : refused) {
            asked.call(one.name, one.numbers);
            if (one.finding != 0) finding = one.finding;
            due(state.name + ": count 8 behind " + one.told(), asked.call("count", 8), finding);
        }
    }

    // ---- numbers that are not as told

    private static Long bound(State state, String told) {
        switch (told) {
            case "*": return null;
            case "P": return state.places - 1L;
            case "N": return state.nights - 1L;
            case "D": return state.debts - 1L;
            default: return Long.parseLong(told);
        }
    }

    private static long refusalOf(String name) {
        if (name.equals("warmth")) return -1000 + BAD;
        if (name.equals("get")) return LEAST;
        return name.equals("chance") ? Long.MIN_VALUE - BAD : BAD;
    }

    private static List<Integer> outside(Long least, Long most) {
        List<Integer> outside = new ArrayList<>();
        if (least != null) outside.addAll(List.of(LEAST, (int) (least - 1)));
        if (most != null) outside.addAll(List.of((int) (most + 1), MOST));
        return outside;
    }

    /** Each number in turn is outside its bounds, while the others are at their least, and at their most. */
    private static void refuseOutside(State state, String row) {
        String[] told = row.split(" ");
        int numbers = told.length / 2;
        List<Refused> refused = new ArrayList<>();
        for (int at = 0; at < numbers; at++) {
            for (int out : outside(bound(state, told[2 * at + 1]), bound(state, told[2 * at + 2]))) {
                for (int end = 1; end <= 2; end++) {
                    Object[] with = corner(state, told, end == 1 ? 0 : -1);
                    with[at] = out;
                    refused.add(new Refused(told[0], with, refusalOf(told[0]), 0));
                }
            }
        }
        if (!refused.isEmpty()) refuseAll(state, refused);
    }

    /** Each bit tells whether a number is at its least (0) or at its most (1). */
    private static Object[] corner(State state, String[] told, int bits) {
        Object[] numbers = new Object[told.length / 2];
        for (int at = 0; at < numbers.length; at++) {
            Long bound = bound(state, told[2 * at + 1 + (bits >> at & 1)]);
            numbers[at] = bound == null ? 0 : (int) (long) bound;
        }
        return numbers;
    }

    /** At both ends a number is taken: whatever the answer is, it is not BAD. */
    private static void takeEnds(State state, String row) {
        String[] told = row.split(" ");
        for (int at = 1; at < told.length; at += 2) {
            Long least = bound(state, told[at]);
            Long most = bound(state, told[at + 1]);
            if (least != null && most != null && most < least) return;
        }
        if (told[0].equals("get")) return;
        for (int bits = 0; bits < 1 << told.length / 2; bits++) {
            Object[] with = corner(state, told, bits);
            long answer = new RefusalsTest(state).call(told[0], with);
            due(state.name + ": " + told[0] + Arrays.toString(with) + " is BAD", answer == refusalOf(told[0]), false);
        }
    }

    // ---- the other refusals

    private static Refused refused(long answer, String name, Object... numbers) {
        return new Refused(name, numbers, answer, answer <= -11 && answer >= -15 ? (int) (-10 - answer) : 0);
    }

    private static void refuseByState() {
        refuseAll(EMPTY, List.of(refused(NOT, "undo", 0), refused(NOT, "undo", 1), refused(NOT, "undo", 2)));
        refuseAll(EMPTY, List.of(refused(NOT, "back", 0), refused(NOT, "back", 1), refused(NOT, "back", 2)));
        refuseAll(MOST_OF_ALL, List.of(refused(FULL, "type", 0, 59), refused(FULL, "type", 1, 97), refused(FULL, "type", 2, 0),
            refused(FULL, "type", 2, 255)));
        refuseAll(MOST_OF_ALL, List.of(refused(FULL, "cloud", 0), refused(FULL, "cloud", 39)));
        refuseAll(MOST_OF_ALL, List.of(refused(FULL, "smoke", 0, 0), refused(FULL, "smoke", 39, 7)));
        refuseAll(MOST_OF_ALL, List.of(refused(FULL, "ice", 0, 0), refused(FULL, "ice", 39, 7)));
        refuseAll(MOST_OF_ALL, List.of(refused(FULL, "seen", 0, 0, 0), refused(FULL, "seen", 39, 7, 1)));
    }

    private static void refuseByFindings(State state, int items) {
        refuseAll(state, List.of(refused(-11, "lose", 3), refused(-11, "read", 3), refused(-11, "write", 0, 3),
            refused(-11, "write", 1, 3), refused(-11, "put", 3, 0, 0, 1), refused(-11, "put", 3, 2, -1, 1),
            refused(-11, "copy", 3, 0, 0, 0, 1), refused(-11, "copy", 0, 0, 3, 0, 1), refused(-11, "copy", 3, 0, 3, -1, -1)));
        refuseAll(state, List.of(refused(-12, "put", 0, 0, -1, 9), refused(-12, "put", 1, 1, items, 9), refused(-12, "put", 2, 2, MOST, 9),
            refused(-12, "put", 2, 2, LEAST, 9), refused(-12, "copy", 0, 0, 0, 1, items), refused(-12, "copy", 1, 1, 1, 0, items),
            refused(-12, "copy", 2, 0, 2, 0, -1), refused(-12, "copy", 2, 0, 2, 0, items + 1), refused(-12, "copy", 2, -1, 2, 0, 0),
            refused(-12, "copy", 2, 1, 2, 1, MOST), refused(-12, "copy", 2, items + 1, 2, 0, 0)));
        refuseAll(state, List.of(refused(-13, "put", 0, 1, 0, 9), refused(-13, "put", 1, 2, 0, 9), refused(-13, "put", 2, 0, items, 9),
            refused(-14, "copy", 0, 0, 1, 0, 1), refused(-14, "copy", 2, 0, 1, -1, 1), refused(-14, "copy", 1, 0, 2, 0, 0)));
        refuseAll(state, List.of(refused(-15, "sheet", 3, 0, -1), refused(-15, "sheet", 0, 2, -1), refused(-15, "sheet", 1, 0, LEAST)));
        refuseAll(state, List.of(new Refused("get", new Object[] {3, 0, 0}, LEAST, 1), new Refused("get", new Object[] {0, 0, items}, LEAST, 2),
            new Refused("get", new Object[] {1, 1, -1}, LEAST, 2), new Refused("get", new Object[] {2, 1, -1}, LEAST, 3),
            new Refused("get", new Object[] {3, 2, MOST}, LEAST, 1)));
    }

    public static void main(String[] args) {
        for (State state : List.of(EMPTY, SOME, MOST_OF_ALL)) {
            for (String row : TAKEN) {
                takeEnds(state, row);
                refuseOutside(state, row);
            }
        }
        refuseByState();
        refuseByFindings(SOME, 3);
        refuseByFindings(MOST_OF_ALL, 48);
        System.out.println(checks + " answers looked at, " + wrong + " wrong");
        if (wrong != 0) System.exit(1);
    }
}
