/** Short names, and objects to ask, for the tests of the document's sentences. */
abstract class Edges {
    static final int NONE = -1, BAD = -2, NOT = -3, FULL = -4;
    static final int NULL = -11, INDEX = -12, CAST = -13, STORE = -14, SIZE = -15;
    static final int LEAST = Integer.MIN_VALUE, MOST = Integer.MAX_VALUE;
    static final int TERMS = Sentences.TERMS;

    static void typeAll(FrostDebts x, int text, String signs) {
        for (int i = 0; i < signs.length(); i++) x.type(text, signs.charAt(i));
    }

    static FrostDebts typed(String places, String nights, String debts) {
        FrostDebts x = new FrostDebts();
        typeAll(x, 0, places);
        typeAll(x, 1, nights);
        typeAll(x, 2, debts);
        return x;
    }

    /** Warm 15 13 11 11 9 7 6 5 4 3 2 1; first frosts at 7, 4, 2, 7 and none; 73 bytes. */
    static FrostDebts village() {
        return typed("0o;5o;3h;2w;0s", "pnlljhgfedcb", "ab10000;bc20103;ca05202;ad30309;de40400;ef07701");
    }

    static String times(String one, int times, String between) {
        StringBuilder all = new StringBuilder();
        for (int i = 0; i < times; i++) all.append(i == 0 ? "" : between).append(one);
        return all.toString();
    }

    /** So many nights too warm for frost at ZERO 6 in any place, and behind them so many that are as cold as can be. */
    static String warmThenCold(int warm, int cold) {
        return times("z", warm, "") + times("a", cold, "");
    }

    static int faultOf(int text, String signs) {
        FrostDebts x = new FrostDebts();
        typeAll(x, text, signs);
        return x.fault(text);
    }

    static void fill(FrostDebts x, int sheet, int form, int... items) {
        x.sheet(sheet, form, items.length);
        for (int i = 0; i < items.length; i++) x.put(sheet, form, i, items[i]);
    }
}
