import java.math.BigInteger;
import java.util.ArrayList;
import java.util.List;
import java.util.regex.Matcher;
import java.util.regex.Pattern;

/**
 * The document's words, each taken as plainly and as slowly as can be: what FrostDebts
 * works out by bits is tried out here, and findings are what real Java rows throw.
 */
public final class PlainModel {
    private static final int NONE = -1, BAD = -2, NOT = -3, FULL = -4;
    private static final int[] ROOMS = {23, 40, 71};
    private static final Pattern[] FORMS_OF_TEXTS = {
        Pattern.compile("(?:[0-9][ohws](?:;[0-9][ohws]){0,7})?"),
        Pattern.compile("[a-z]*"),
        Pattern.compile("(?:X(?:;X){0,8})?".replace("X", "[a-f][a-f](?:[1-9][0-9]|0[1-9])[0-7][0-3][0-9]")),
    };

    private final String[] texts = {"", "", ""};
    private final String[] partsOf = {"", "", ""};
    private final String[][] parts = new String[3][];
    private List<Integer> clouds = new ArrayList<>();
    private List<int[]> smokes = new ArrayList<>();
    private List<int[]> ices = new ArrayList<>();
    private List<int[]> sights = new ArrayList<>();
    private int zero = 6;
    private final Object[] sheets = new Object[4];
    private int finding = 0;

    private PlainModel twin() {
        PlainModel twin = new PlainModel();
        System.arraycopy(texts, 0, twin.texts, 0, 3);
        System.arraycopy(partsOf, 0, twin.partsOf, 0, 3);
        System.arraycopy(parts, 0, twin.parts, 0, 3);
        twin.clouds = new ArrayList<>(clouds);
        twin.smokes = new ArrayList<>(smokes);
        twin.ices = new ArrayList<>(ices);
        twin.sights = new ArrayList<>(sights);
        twin.zero = zero;
        return twin;
    }

    private static boolean in(int v, int least, int most) {
        return least <= v && v <= most;
    }

    public int type(int text, int b) {
        if (!in(text, 0, 2) || !in(b, 0, 255)) return BAD;
        if (texts[text].length() == ROOMS[text]) return FULL;
        texts[text] += (char) b;
        return texts[text].length();
    }

    public int wipe(int text) {
        if (!in(text, 0, 2)) return BAD;
        int had = texts[text].length();
        texts[text] = "";
        return had;
    }

    public int undo(int text) {
        if (!in(text, 0, 2)) return BAD;
        if (texts[text].isEmpty()) return NOT;
        texts[text] = texts[text].substring(0, texts[text].length() - 1);
        return texts[text].length();
    }

    public int fault(int text) {
        if (!in(text, 0, 2)) return BAD;
        for (int i = 0; i < texts[text].length(); i++) {
            Matcher ahead = FORMS_OF_TEXTS[text].matcher(texts[text].substring(0, i + 1));
            if (!ahead.matches() && !ahead.hitEnd()) return i;
        }
        return FORMS_OF_TEXTS[text].matcher(texts[text]).matches() ? NONE : texts[text].length();
    }

    /** Split anew only where the text is another one, as the patterns are slow. */
    private String[] parts(int text) {
        if (parts[text] == null || !texts[text].equals(partsOf[text])) {
            partsOf[text] = texts[text];
            boolean isNothing = fault(text) != NONE || texts[text].isEmpty();
            parts[text] = isNothing ? new String[0] : texts[text].split(text == 1 ? "" : ";");
        }
        return parts[text];
    }

    private int places() {
        return parts(0).length;
    }

    private int nights() {
        return parts(1).length;
    }

    private int debts() {
        return parts(2).length;
    }

    public int place(int place, int what) {
        if (!in(place, 0, places() - 1) || !in(what, 0, 1)) return BAD;
        String told = parts(0)[place];
        return what == 0 ? told.charAt(0) - '0' : "ohws".indexOf(told.charAt(1));
    }

    public int warm(int night) {
        return in(night, 0, nights() - 1) ? parts(1)[night].charAt(0) - 'a' : BAD;
    }

    public int debt(int debt, int what) {
        if (!in(debt, 0, debts() - 1) || !in(what, 0, 4)) return BAD;
        String told = parts(2)[debt];
        switch (what) {
            case 0: return told.charAt(0) - 'a';
            case 1: return told.charAt(1) - 'a';
            case 2: return Integer.parseInt(told.substring(2, 4));
            case 3: return Integer.parseInt(told.substring(4, 5));
            default: return Integer.parseInt(told.substring(5));
        }
    }

    public int zero(int v) {
        if (!in(v, 0, 25)) return BAD;
        int was = zero;
        zero = v;
        return was;
    }

    public int cloud(int night) {
        if (!in(night, 0, 39)) return BAD;
        if (clouds.size() == 8) return FULL;
        clouds.add(night);
        return clouds.size();
    }

    public int smoke(int night, int place) {
        return more(smokes, night, place);
    }

    public int ice(int night, int place) {
        return more(ices, night, place);
    }

    private static int more(List<int[]> list, int night, int place) {
        if (!in(night, 0, 39) || !in(place, 0, 7)) return BAD;
        if (list.size() == 8) return FULL;
        list.add(new int[] {night, place});
        return list.size();
    }

    public int back(int what) {
        if (!in(what, 0, 2)) return BAD;
        List<?> list = List.of(clouds, smokes, ices).get(what);
        if (list.isEmpty()) return NOT;
        list.remove(list.size() - 1);
        return list.size();
    }

    public int warmth(int night, int place) {
        if (!in(night, 0, nights() - 1) || !in(place, 0, places() - 1)) return -1002;
        return warm(night) - place(place, 0) + new int[] {0, -3, 2, 4}[place(place, 1)];
    }

    private static boolean has(List<int[]> list, int night, int place) {
        for (int[] one : list) if (one[0] == night && one[1] == place) return true;
        return false;
    }

    public int freezes(int night, int place) {
        if (!in(night, 0, nights() - 1) || !in(place, 0, places() - 1)) return BAD;
        if (has(ices, night, place)) return 2;
        if (warmth(night, place) >= zero || clouds.contains(night) || has(smokes, night, place)) return 0;
        return place(place, 1) == 3 && night <= 19 ? 0 : 1;
    }

    public int first(int place) {
        if (!in(place, 0, places() - 1)) return BAD;
        for (int night = 0; night < nights(); night++) if (freezes(night, place) != 0) return night;
        return NONE;
    }

    private boolean hadBy(int place, int night) {
        return in(place, 0, places() - 1) && first(place) != NONE && first(place) <= night;
    }

    public int had(int night) {
        if (!in(night, 0, 39)) return BAD;
        int bits = 0;
        for (int p = 0; p < 8; p++) if (hadBy(p, night)) bits += 1 << p;
        return bits;
    }

    public int stands(int debt, int night) {
        if (!in(debt, 0, debts() - 1) || !in(night, 0, 39)) return BAD;
        int place = debt(debt, 3);
        if (place >= places() || night < debt(debt, 4)) return 0;
        return first(place) == NONE || first(place) > night ? 1 : 0;
    }

    public int lasts(int debt, int what) {
        if (!in(debt, 0, debts() - 1) || !in(what, 0, 1)) return BAD;
        if (what == 1) {
            int place = debt(debt, 3);
            return place >= places() || first(place) != NONE && first(place) < debt(debt, 4) ? 1 : 0;
        }
        int nights = 0;
        for (int night = 0; night < 40; night++) nights += stands(debt, night);
        return nights;
    }

    public int never() {
        int bits = 0;
        for (int d = 0; d < debts(); d++) bits += stands(d, 39) << d;
        return bits;
    }

    public int owes(int person, int night, int what) {
        if (!in(person, 0, 5) || !in(night, 0, 39) || !in(what, 0, 1)) return BAD;
        int sum = 0;
        for (int d = 0; d < debts(); d++) if (debt(d, what) == person) sum += debt(d, 2) * stands(d, night);
        return sum;
    }

    public int hangs(int night) {
        if (!in(night, 0, 39)) return BAD;
        int bits = 0;
        for (int p = 0; p < 6; p++) if (owes(p, night, 0) > owes(p, night, 1)) bits += 1 << p;
        return bits;
    }

    public int free(int person, int night) {
        if (!in(person, 0, 5) || !in(night, 0, 39)) return BAD;
        int answer = NONE;
        for (int n = 39; n >= night && owes(person, n, 0) == 0; n--) answer = n;
        return answer;
    }

    public int where(int debt, int most, int what) {
        if (!in(debt, 0, debts() - 1) || !in(most, 0, 1) || !in(what, 0, 1)) return BAD;
        int best = NONE;
        int bestNights = NONE;
        for (int p = places() - 1; p >= 0; p--) {
            PlainModel other = twin();
            StringBuilder text = new StringBuilder(texts[2]);
            text.setCharAt(8 * debt + 4, (char) ('0' + p));
            other.texts[2] = text.toString();
            int nights = other.lasts(debt, 0);
            if (best == NONE || (most == 1 ? nights >= bestNights : nights <= bestNights)) {
                best = p;
                bestNights = nights;
            }
        }
        return what == 0 ? best : bestNights;
    }

    public int keep(int place, int night, int i) {
        if (!in(place, 0, places() - 1) || !in(night, 0, 39) || !in(i, NONE, 39)) return BAD;
        List<Integer> found = new ArrayList<>();
        for (int n = 0; n <= night && n < nights(); n++) {
            if (freezes(n, place) == 2) return NONE;
            if (freezes(n, place) == 1) found.add(n);
        }
        return chosen(found, i);
    }

    private static int chosen(List<Integer> found, int i) {
        if (i == NONE) return found.size();
        return i < found.size() ? found.get(i) : NONE;
    }

    public int carry(int person, int night, int i) {
        if (!in(person, 0, 5) || !in(night, 0, nights() - 1) || !in(i, NONE, 2)) return BAD;
        for (int blocks = 0; blocks <= 3; blocks++) {
            List<Integer> row = leastRow(person, night, blocks, new ArrayList<>());
            if (row != null) return chosen(row, i);
        }
        return NONE;
    }

    private List<Integer> leastRow(int person, int night, int blocks, List<Integer> row) {
        if (row.size() == blocks) {
            PlainModel other = twin();
            for (int p : row) other.ices.add(new int[] {night, p});
            return other.owes(person, night, 0) == 0 ? row : null;
        }
        int from = row.isEmpty() ? 0 : row.get(row.size() - 1) + 1;
        for (int p = from; p < places(); p++) {
            List<Integer> longer = new ArrayList<>(row);
            longer.add(p);
            List<Integer> found = leastRow(person, night, blocks, longer);
            if (found != null) return found;
        }
        return null;
    }

    public int seen(int night, int place, int is) {
        if (!in(night, 0, 39) || !in(place, 0, 7) || !in(is, 0, 1)) return BAD;
        if (sights.size() == 8) return FULL;
        sights.add(new int[] {night, place, is});
        return sights.size();
    }

    public int forget() {
        int had = sights.size();
        sights.clear();
        return had;
    }

    public int read(int s) {
        if (!in(s, 0, 3)) return BAD;
        if (sheets[s] == null) return found(1);
        int[] items = items(s);
        int taken = 0;
        while (3 * taken + 3 <= items.length
            && seen(items[3 * taken], items[3 * taken + 1], items[3 * taken + 2]) >= 0) taken++;
        return taken;
    }

    private boolean isAsSeen() {
        for (int[] one : sights) if (hadBy(one[1], one[0]) != (one[2] == 1)) return false;
        return true;
    }

    private PlainModel withWarm(int night, int warm) {
        PlainModel other = twin();
        StringBuilder text = new StringBuilder(texts[1]);
        text.setCharAt(night, (char) ('a' + warm));
        other.texts[1] = text.toString();
        return other;
    }

    public int was(int night) {
        if (!in(night, 0, nights() - 1)) return BAD;
        int bits = 0;
        for (int w = 0; w < 26; w++) if (withWarm(night, w).isAsSeen()) bits += 1 << w;
        return bits;
    }

    public int carried() {
        int bits = 0;
        for (int i = 0; i < ices.size(); i++) {
            PlainModel other = twin();
            other.ices.remove(i);
            if (other.isAsSeen()) bits += 1 << i;
        }
        return bits;
    }

    public int ask(int night) {
        if (!in(night, 0, nights() - 1)) return BAD;
        int best = NONE;
        int bestNumber = 0;
        int warms = was(night);
        for (int p = 0; p < places(); p++) {
            int[] numbers = {0, 0};
            for (int w = 0; w < 26; w++) {
                if ((warms >> w & 1) == 1) numbers[withWarm(night, w).hadBy(p, night) ? 1 : 0]++;
            }
            int greater = Math.max(numbers[0], numbers[1]);
            if (best == NONE || greater < bestNumber) {
                best = p;
                bestNumber = greater;
            }
        }
        return best;
    }

    /** Every sky there can be, each with its weight. */
    public long chance(int c, int place, int night, int what) {
        if (!in(c, 0, 16) || !in(place, 0, places() - 1) || !in(night, 0, 11) || !in(what, 0, 1)) {
            return Long.MIN_VALUE + 2;
        }
        boolean[] clear = new boolean[12];
        boolean[] clouded = new boolean[12];
        int nights = Math.min(night + 1, nights());
        for (int n = 0; n < nights; n++) {
            PlainModel other = twin();
            other.clouds.clear();
            clear[n] = other.freezes(n, place) != 0;
            other.clouds.add(n);
            clouded[n] = other.freezes(n, place) != 0;
        }
        BigInteger above = BigInteger.ZERO;
        for (int sky = 0; sky < 1 << nights; sky++) {
            boolean frost = false;
            for (int n = 0; n < nights; n++) frost |= (sky >> n & 1) == 1 ? clouded[n] : clear[n];
            int cloudy = Integer.bitCount(sky);
            BigInteger weight = BigInteger.valueOf(c).pow(cloudy).multiply(BigInteger.valueOf(16 - c).pow(nights - cloudy));
            if (frost) above = above.add(weight);
        }
        BigInteger below = BigInteger.valueOf(16).pow(nights);
        BigInteger common = above.gcd(below);
        return (what == 0 ? above : below).divide(common).longValueExact();
    }

    public int year(int seed, int place) {
        if (place != NONE && !in(place, 0, places() - 1)) return BAD;
        PlainModel other = twin();
        other.clouds.clear();
        long state = seed & 0xffffffffL;
        for (int n = 0; n < nights(); n++) {
            state = (1103515245L * state + 12345L) & 0xffffffffL;
            if (state / 65536L % 4L == 0L) other.clouds.add(n);
        }
        return place == NONE ? Integer.bitCount(other.never()) : other.first(place);
    }

    private int found(int number) {
        finding = number;
        return -10 - number;
    }

    private int found(RuntimeException thrown) {
        if (thrown instanceof NullPointerException) return found(1);
        if (thrown instanceof IndexOutOfBoundsException) return found(2);
        if (thrown instanceof ClassCastException) return found(3);
        if (thrown instanceof ArrayStoreException) return found(4);
        if (thrown instanceof NegativeArraySizeException) return found(5);
        throw thrown;
    }

    private int[] items(int s) {
        int[] items = new int[java.lang.reflect.Array.getLength(sheets[s])];
        for (int i = 0; i < items.length; i++) items[i] = ((Number) java.lang.reflect.Array.get(sheets[s], i)).intValue();
        return items;
    }

    private void store(int s, int form, int i, int v) {
        if (form == 0) ((byte[]) sheets[s])[i] = (byte) v;
        if (form == 1) ((short[]) sheets[s])[i] = (short) v;
        if (form == 2) ((int[]) sheets[s])[i] = v;
    }

    public int sheet(int s, int form, int n) {
        if (!in(s, 0, 3) || !in(form, 0, 2) || n > 48) return BAD;
        try {
            sheets[s] = form == 0 ? new byte[n] : form == 1 ? new short[n] : new int[n];
            return n;
        } catch (RuntimeException thrown) {
            return found(thrown);
        }
    }

    public int lose(int s) {
        if (!in(s, 0, 3)) return BAD;
        if (sheets[s] == null) return found(1);
        int had = items(s).length;
        sheets[s] = null;
        return had;
    }

    public int put(int s, int form, int i, int v) {
        if (!in(s, 0, 3) || !in(form, 0, 2)) return BAD;
        try {
            store(s, form, i, v);
            return 1;
        } catch (RuntimeException thrown) {
            return found(thrown);
        }
    }

    public int get(int s, int form, int i) {
        if (!in(s, 0, 3) || !in(form, 0, 2)) return Integer.MIN_VALUE;
        try {
            if (form == 0) return ((byte[]) sheets[s])[i];
            return form == 1 ? ((short[]) sheets[s])[i] : ((int[]) sheets[s])[i];
        } catch (RuntimeException thrown) {
            found(thrown);
            return Integer.MIN_VALUE;
        }
    }

    public int copy(int s, int i, int t, int j, int n) {
        if (!in(s, 0, 3) || !in(t, 0, 3)) return BAD;
        try {
            System.arraycopy(sheets[s], i, sheets[t], j, n);
            return 1;
        } catch (RuntimeException thrown) {
            return found(thrown);
        }
    }

    public int write(int what, int s) {
        if (!in(what, 0, 1) || !in(s, 0, 3)) return BAD;
        if (sheets[s] == null) return found(1);
        int form = sheets[s] instanceof byte[] ? 0 : sheets[s] instanceof short[] ? 1 : 2;
        int written = 0;
        for (int night = 0; night < 40 && night < items(s).length; night++) {
            int all = 0;
            for (int d = 0; d < debts(); d++) all += stands(d, night) * debt(d, 2);
            store(s, form, night, what == 0 ? all : hangs(night));
            written++;
        }
        return written;
    }

    public int count(int what) {
        if (!in(what, 0, 8)) return BAD;
        int[] counts = {places(), nights(), debts(), texts[0].length(), texts[1].length(), texts[2].length(),
            clouds.size() + smokes.size() + ices.size(), sights.size(), finding};
        return counts[what];
    }

    public long digest() {
        List<Long> all = new ArrayList<>();
        for (int what = 0; what <= 7; what++) all.add((long) count(what));
        for (int text = 0; text <= 2; text++) all.add((long) fault(text));
        for (int it = 0; it < places(); it++) {
            for (long v : new long[] {place(it, 0), place(it, 1), warmth(3, it), freezes(3, it), first(it),
                keep(it, 9, NONE), keep(it, 9, 0), chance(5, it, 9, 0), chance(5, it, 9, 1), year(7, it)}) all.add(v);
        }
        for (int it = 0; it < debts(); it++) {
            for (int what = 0; what <= 4; what++) all.add((long) debt(it, what));
            for (long v : new long[] {lasts(it, 0), lasts(it, 1), where(it, 0, 0), where(it, 0, 1),
                where(it, 1, 0), where(it, 1, 1)}) all.add(v);
        }
        for (int it = 0; it <= 5; it++) {
            for (long v : new long[] {owes(it, 5, 0), owes(it, 5, 1), free(it, 0), carry(it, 5, NONE),
                carry(it, 5, 0)}) all.add(v);
        }
        for (int it : new int[] {0, 5, 20, 39}) {
            for (long v : new long[] {had(it), hangs(it), was(it), ask(it)}) all.add(v);
        }
        for (long v : new long[] {never(), carried(), year(7, NONE)}) all.add(v);
        long h = 17;
        for (long v : all) h = 31 * h + v;
        return h;
    }
}
