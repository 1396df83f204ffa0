/** Each promise by hand: ordinary numbers, the edges that the document names, and wrong numbers. */
public final class PromisesTest {
    private static final int NONE = -1, BAD = -2, NOT = -3, FULL = -4;
    private static final int LEAST = Integer.MIN_VALUE, MOST = Integer.MAX_VALUE;
    private static final int[] OUTSIDE = {LEAST, -1, MOST};
    private static int wrong = 0;
    private static int checks = 0;

    private static void due(int promise, String call, long got, long want) {
        checks++;
        if (got == want) return;
        wrong++;
        System.out.println("promise " + promise + ": " + call + " answered " + got + ", due is " + want);
    }

    private static FrostDebts typed(String places, String nights, String debts) {
        FrostDebts x = new FrostDebts();
        typeAll(x, 0, places);
        typeAll(x, 1, nights);
        typeAll(x, 2, debts);
        return x;
    }

    private static void typeAll(FrostDebts x, int text, String signs) {
        for (int i = 0; i < signs.length(); i++) x.type(text, signs.charAt(i));
    }

    /** Warm 15 13 11 11 9 7 6 5 4 3 2 1; first frosts at 7, 4, 2, 7 and none. */
    private static FrostDebts village() {
        return typed("0o;5o;3h;2w;0s", "pnlljhgfedcb", "ab10000;bc20103;ca05202;ad30309;de40400;ef07701");
    }

    private static int faultOf(int text, String signs) {
        FrostDebts x = new FrostDebts();
        typeAll(x, text, signs);
        return x.fault(text);
    }

    private static String times(String one, int times, String between) {
        StringBuilder all = new StringBuilder(one);
        for (int i = 1; i < times; i++) all.append(between).append(one);
        return all.toString();
    }

    private static void newObject() {
        FrostDebts x = new FrostDebts();
        for (int what = 0; what <= 8; what++) due(1, "count " + what, x.count(what), 0);
        for (int s = 0; s < 4; s++) due(1, "lose " + s, x.lose(s), -11);
        due(1, "zero", x.zero(6), 6);
    }

    private static void typing() {
        FrostDebts x = new FrostDebts();
        due(2, "0", x.type(1, 0), 1);
        due(2, "255", x.type(1, 255), 2);
        due(2, "256", x.type(1, 256), BAD);
        for (int out : OUTSIDE) {
            due(2, "byte " + out, x.type(1, out), BAD);
            due(2, "text " + out, x.type(out, 97), BAD);
        }
        due(2, "text 3", x.type(3, 97), BAD);
        due(2, "nothing came", x.count(4), 2);
        int[] rooms = {23, 40, 71};
        for (int text = 0; text < 3; text++) {
            x.wipe(text);
            for (int i = 1; i <= rooms[text]; i++) due(2, "room", x.type(text, 97), i);
            due(2, "full", x.type(text, 97), FULL);
            due(2, "bad ahead of full", x.type(text, 256), BAD);
            due(2, "full changes nothing", x.count(3 + text), rooms[text]);
        }
    }

    private static void wiping() {
        FrostDebts x = village();
        for (int out : OUTSIDE) due(3, "text " + out, x.wipe(out), BAD);
        due(3, "text 3", x.wipe(3), BAD);
        due(3, "debts", x.wipe(2), 47);
        due(3, "no debts", x.count(2), 0);
        due(3, "again", x.wipe(2), 0);
        due(3, "nights", x.wipe(1), 12);
        due(3, "no nights, no frost", x.first(0), NONE);
        due(3, "places", x.wipe(0), 14);
        due(3, "no places", x.count(0), 0);
        typeAll(x, 0, "9o");
        typeAll(x, 1, "a");
        typeAll(x, 2, "ab01000");
        due(3, "nothing is left of what was wiped", x.had(39), 1);
        due(3, "nor of its debts", x.free(2, 0) + x.never() + x.owes(0, 0, 0), 0);
    }

    private static void undoing() {
        FrostDebts x = village();
        for (int out : OUTSIDE) due(4, "text " + out, x.undo(out), BAD);
        due(4, "text 3", x.undo(3), BAD);
        due(4, "nights", x.undo(1), 11);
        due(4, "one night fewer", x.count(1), 11);
        due(4, "places", x.undo(0), 13);
        due(4, "not ended, as if empty", x.count(0), 0);
        due(4, "its fault", x.fault(0), 13);
        x.undo(0);
        due(4, "still behind ;", x.count(0), 0);
        due(4, "well again", x.undo(0), 11);
        due(4, "four places", x.count(0), 4);
        due(4, "empty", new FrostDebts().undo(2), NOT);
    }

    private static void faults() {
        FrostDebts x = new FrostDebts();
        for (int out : OUTSIDE) due(5, "text " + out, x.fault(out), BAD);
        due(5, "text 3", x.fault(3), BAD);
        String[] places = {"", "0o", "9s;0h;4w", times("1o", 8, ";")};
        for (String well : places) due(5, well, faultOf(0, well), NONE);
        due(5, "1", faultOf(0, "1"), 1);
        due(5, "1o;", faultOf(0, "1o;"), 3);
        due(5, ";", faultOf(0, ";"), 0);
        due(5, "1o;;", faultOf(0, "1o;;"), 3);
        due(5, "1O", faultOf(0, "1O"), 1);
        due(5, ":o", faultOf(0, ":o"), 0);
        due(5, "/o", faultOf(0, "/o"), 0);
        due(5, "1o,2o", faultOf(0, "1o,2o"), 2);
        due(5, "1o;2", faultOf(0, "1o;2"), 4);
        due(5, "az", faultOf(1, "az"), NONE);
        due(5, "a`", faultOf(1, "a`"), 1);
        due(5, "a{", faultOf(1, "a{"), 1);
        due(5, "a;b", faultOf(1, "a;b"), 1);
        debtFaults();
    }

    private static void debtFaults() {
        String[] wells = {"", "aa01000", "ff99739", "ab10000;bc90739", times("ab10000", 9, ";")};
        for (String well : wells) due(5, well, faultOf(2, well), NONE);
        String[] faulty = {"ga01000", "ag01000", "abx1000", "ab0x000", "ab00000", "ab01800", "ab01040", "ab0100:", "ab01000,",
            "ab01000;", "ab01000;x", "ab0100", "ab010", "ab01", "ab0", "ab", "a", "`a", "ab01000;ab00"};
        int[] at = {0, 1, 2, 3, 3, 4, 5, 6, 7, 8, 8, 6, 5, 4, 3, 2, 1, 0, 11};
        for (int i = 0; i < faulty.length; i++) due(5, faulty[i], faultOf(2, faulty[i]), at[i]);
    }

    private static void placesNightsDebts() {
        FrostDebts x = typed("0o;9h;5w;7s", "az", "fa99739");
        int[] heights = {0, 9, 5, 7};
        for (int p = 0; p < 4; p++) {
            due(6, "height " + p, x.place(p, 0), heights[p]);
            due(6, "kind " + p, x.place(p, 1), p);
        }
        due(6, "place 4", x.place(4, 0), BAD);
        due(6, "what 2", x.place(0, 2), BAD);
        due(7, "a", x.warm(0), 0);
        due(7, "z", x.warm(1), 25);
        due(7, "night 2", x.warm(2), BAD);
        int[] facts = {5, 0, 99, 7, 39};
        for (int what = 0; what < 5; what++) due(8, "what " + what, x.debt(0, what), facts[what]);
        due(8, "what 5", x.debt(0, 5), BAD);
        due(8, "debt 1", x.debt(1, 0), BAD);
        for (int out : OUTSIDE) {
            due(6, "place " + out, x.place(out, 0), BAD);
            due(6, "what " + out, x.place(0, out), BAD);
            due(7, "night " + out, x.warm(out), BAD);
            due(8, "debt " + out, x.debt(out, 0), BAD);
            due(8, "what " + out, x.debt(0, out), BAD);
        }
        x.type(2, ';');
        due(8, "with a fault there are none", x.debt(0, 0), BAD);
    }

    private static void zeros() {
        FrostDebts x = village();
        for (int out : OUTSIDE) due(9, "zero " + out, x.zero(out), BAD);
        due(9, "26", x.zero(26), BAD);
        due(9, "25", x.zero(25), 6);
        due(9, "it freezes at once", x.first(0), 0);
        due(9, "0", x.zero(0), 25);
        due(9, "in no night", x.first(0), NONE);
        due(9, "less than it, no more", x.first(1), 8);
        due(9, "back to 6", x.zero(6), 0);
    }

    private static void clouds() {
        FrostDebts x = village();
        for (int out : OUTSIDE) due(10, "night " + out, x.cloud(out), BAD);
        due(10, "40", x.cloud(40), BAD);
        due(10, "7", x.cloud(7), 1);
        due(10, "place 0", x.first(0), 8);
        due(10, "place 3", x.first(3), 8);
        due(10, "again the same", x.cloud(7), 2);
        for (int i = 3; i <= 8; i++) due(10, "a night that there is not", x.cloud(39), i);
        due(10, "full", x.cloud(8), FULL);
        due(10, "bad ahead of full", x.cloud(40), BAD);
        due(10, "full changes nothing", x.first(0), 8);
    }

    private static void smokes() {
        FrostDebts x = village();
        for (int out : OUTSIDE) {
            due(11, "night " + out, x.smoke(out, 0), BAD);
            due(11, "place " + out, x.smoke(0, out), BAD);
        }
        due(11, "night 40", x.smoke(40, 0), BAD);
        due(11, "place 8", x.smoke(0, 8), BAD);
        due(11, "7, 0", x.smoke(7, 0), 1);
        due(11, "place 0", x.first(0), 8);
        due(11, "place 3 has none", x.first(3), 7);
        for (int i = 2; i <= 8; i++) due(11, "what there is not", x.smoke(39, 7), i);
        due(11, "full", x.smoke(8, 0), FULL);
        due(11, "bad ahead of full", x.smoke(8, 8), BAD);
    }

    private static void ices() {
        FrostDebts x = village();
        for (int out : OUTSIDE) {
            due(12, "night " + out, x.ice(out, 0), BAD);
            due(12, "place " + out, x.ice(0, out), BAD);
        }
        due(12, "night 40", x.ice(40, 0), BAD);
        due(12, "place 8", x.ice(0, 8), BAD);
        due(12, "a night that there is not", x.ice(12, 4), 1);
        due(12, "is nothing", x.first(4), NONE);
        due(12, "by the sea, early", x.ice(3, 4), 2);
        due(12, "as if it froze", x.first(4), 3);
        x.cloud(5);
        x.smoke(5, 0);
        due(12, "cloud and smoke or not", x.ice(5, 0), 3);
        due(12, "as if it froze there", x.first(0), 5);
        due(12, "a place that there is not", x.ice(2, 7), 4);
        typeAll(x, 0, ";0o;0o;9o");
        due(12, "until there is one, with its own frost", x.first(7), 1);
        due(12, "ice there", x.freezes(2, 7), 2);
        for (int i = 5; i <= 8; i++) due(12, "more", x.ice(0, 0), i);
        due(12, "full", x.ice(0, 0), FULL);
        due(12, "bad ahead of full", x.ice(0, 8), BAD);
    }

    private static void backs() {
        FrostDebts x = village();
        for (int out : OUTSIDE) due(13, "what " + out, x.back(out), BAD);
        due(13, "what 3", x.back(3), BAD);
        for (int what = 0; what < 3; what++) due(13, "none " + what, x.back(what), NOT);
        x.cloud(7);
        x.cloud(8);
        x.smoke(7, 3);
        x.smoke(9, 3);
        x.ice(1, 1);
        due(13, "ice", x.back(2), 0);
        due(13, "no ice", x.first(1), 4);
        due(13, "ahead of it", x.first(3), 10);
        due(13, "smoke, the last", x.back(1), 1);
        due(13, "night 9", x.first(3), 9);
        due(13, "cloud, the last", x.back(0), 1);
        due(13, "night 8", x.first(0), 8);
        due(13, "the first cloud", x.back(0), 0);
        due(13, "night 7", x.first(0), 7);
        due(13, "smoke is left", x.first(3), 8);
    }

    private static void frost() {
        FrostDebts x = village();
        int[] warmths = {11, 6, 5, 11, 15};
        for (int p = 0; p < 5; p++) due(14, "place " + p, x.warmth(3, p), warmths[p]);
        due(14, "night 12", x.warmth(12, 0), -1002);
        due(14, "place 5", x.warmth(0, 5), -1002);
        FrostDebts cold = typed("9h;9o", "a", "");
        due(14, "the least", cold.warmth(0, 0), -12);
        due(15, "not cold", x.freezes(3, 1), 0);
        due(15, "cold", x.freezes(3, 2), 1);
        due(15, "sea", x.freezes(11, 4), 0);
        x.ice(3, 2);
        due(15, "ice where it freezes", x.freezes(3, 2), 2);
        due(15, "night 12", x.freezes(12, 0), BAD);
        due(15, "place 5", x.freezes(0, 5), BAD);
        FrostDebts sea = typed("9s", times("a", 40, ""), "");
        due(15, "sea at 19", sea.freezes(19, 0), 0);
        due(15, "sea at 20", sea.freezes(20, 0), 1);
        due(16, "sea", sea.first(0), 20);
        int[] firsts = {7, 4, 2, 7, NONE};
        for (int p = 0; p < 5; p++) due(16, "place " + p, x.first(p), firsts[p]);
        due(16, "place 5", x.first(5), BAD);
        int[] nights = {0, 1, 2, 3, 4, 6, 7, 39};
        int[] bits = {0, 0, 4, 4, 6, 6, 15, 15};
        for (int i = 0; i < nights.length; i++) due(17, "night " + nights[i], x.had(nights[i]), bits[i]);
        due(17, "night 40", x.had(40), BAD);
        for (int out : OUTSIDE) {
            due(14, "night " + out, x.warmth(out, 0), -1002);
            due(14, "place " + out, x.warmth(0, out), -1002);
            due(15, "night " + out, x.freezes(out, 0), BAD);
            due(15, "place " + out, x.freezes(0, out), BAD);
            due(16, "place " + out, x.first(out), BAD);
            due(17, "night " + out, x.had(out), BAD);
        }
    }

    private static void standing() {
        FrostDebts x = village();
        int[][] asked = {{0, 0, 1}, {0, 6, 1}, {0, 7, 0}, {1, 2, 0}, {1, 3, 1}, {1, 4, 0}, {2, 2, 0}, {3, 9, 0}, {4, 0, 1},
            {4, 39, 1}, {5, 1, 0}, {6, 0, BAD}, {0, 40, BAD}};
        for (int[] one : asked) due(18, one[0] + " behind " + one[1], x.stands(one[0], one[1]), one[2]);
        int[] nights = {7, 1, 0, 0, 40, 0};
        int[] nothing = {0, 0, 0, 1, 0, 1};
        for (int d = 0; d < 6; d++) {
            due(19, "nights of " + d, x.lasts(d, 0), nights[d]);
            due(19, "nothing " + d, x.lasts(d, 1), nothing[d]);
        }
        due(19, "debt 6", x.lasts(6, 0), BAD);
        due(19, "what 2", x.lasts(0, 2), BAD);
        due(20, "the sea's", x.never(), 16);
        x.ice(11, 4);
        due(20, "ended by ice", x.never(), 0);
        due(20, "none", new FrostDebts().never(), 0);
        due(20, "from the last night on", typed("0o", "z", "ab01039;ab01138").never(), 1);
        for (int out : OUTSIDE) {
            due(18, "debt " + out, x.stands(out, 0), BAD);
            due(18, "night " + out, x.stands(0, out), BAD);
            due(19, "debt " + out, x.lasts(out, 0), BAD);
            due(19, "what " + out, x.lasts(0, out), BAD);
        }
    }

    private static void owing() {
        FrostDebts x = village();
        int[][] asked = {{0, 6, 0, 10}, {0, 7, 0, 0}, {1, 6, 1, 10}, {1, 3, 0, 20}, {2, 3, 1, 20}, {3, 39, 0, 40}, {4, 39, 1, 40},
            {6, 0, 0, BAD}, {0, 40, 0, BAD}, {0, 0, 2, BAD}};
        for (int[] one : asked) {
            due(21, one[0] + ", " + one[1] + ", " + one[2], x.owes(one[0], one[1], one[2]), one[3]);
        }
        int[][] hanging = {{0, 9}, {3, 11}, {4, 9}, {6, 9}, {7, 8}, {39, 8}, {40, BAD}};
        for (int[] one : hanging) due(22, "night " + one[0], x.hangs(one[0]), one[1]);
        due(22, "to oneself", typed("0o", "z", "aa05000;bc07000;cb07000").hangs(0), 0);
        due(21, "together", typed("0o", "z", "ab99000;ac98000;ab01039").owes(0, 39, 0), 198);
        int[][] asks = {{0, 0, 7}, {0, 7, 7}, {0, 8, 8}, {1, 0, 4}, {1, 39, 39}, {2, 0, 0}, {3, 0, NONE}, {3, 39, NONE}, {5, 5, 5},
            {6, 0, BAD}, {0, 40, BAD}};
        for (int[] one : asks) due(23, one[0] + " from " + one[1], x.free(one[0], one[1]), one[2]);
        due(23, "a later one counts", typed("0o;9o", times("z", 30, "") + "a", "ab01000;ab01128").free(0, 0), 30);
        due(23, "in between it owes nothing", typed("0o", "z", "ab01039").free(0, 0), NONE);
        for (int out : OUTSIDE) {
            due(21, "person " + out, x.owes(out, 0, 0), BAD);
            due(21, "night " + out, x.owes(0, out, 0), BAD);
            due(21, "what " + out, x.owes(0, 0, out), BAD);
            due(22, "night " + out, x.hangs(out), BAD);
            due(23, "person " + out, x.free(out, 0), BAD);
            due(23, "night " + out, x.free(0, out), BAD);
        }
    }

    private static void plans() {
        FrostDebts x = village();
        int[][] asked = {{0, 2, 2, 4, 40}, {1, 2, 0, 4, 37}, {3, 0, 0, 4, 31}, {5, 2, 1, 4, 39}};
        for (int[] one : asked) {
            for (int k = 0; k < 4; k++) due(24, one[0] + ", " + k / 2 + ", " + k % 2, x.where(one[0], k / 2, k % 2), one[k + 1]);
        }
        due(24, "debt 6", x.where(6, 0, 0), BAD);
        due(24, "most 2", x.where(0, 2, 0), BAD);
        due(24, "what 2", x.where(0, 0, 2), BAD);
        FrostDebts alike = typed("1o;1o", "g", "ab01100");
        due(24, "of like ones the least", alike.where(0, 0, 0), 0);
        due(24, "also to lend", alike.where(0, 1, 0), 0);
        alike.wipe(0);
        for (int k = 0; k < 4; k++) due(24, "no places", alike.where(0, k / 2, k % 2), NONE);
        for (int out : OUTSIDE) {
            due(24, "debt " + out, x.where(out, 0, 0), BAD);
            due(24, "most " + out, x.where(0, out, 0), BAD);
            due(24, "what " + out, x.where(0, 0, out), BAD);
        }
    }

    private static void keeping() {
        FrostDebts x = village();
        int[][] asked = {{0, 6, -1, 0}, {0, 6, 0, NONE}, {0, 7, -1, 1}, {0, 7, 0, 7}, {0, 39, -1, 5}, {0, 39, 4, 11}, {0, 39, 5, NONE},
            {0, 39, 39, NONE}, {0, 39, 40, BAD}, {0, 39, -2, BAD}, {0, 40, -1, BAD}, {0, -1, -1, BAD}, {5, 39, -1, BAD},
            {-1, 39, -1, BAD}, {4, 39, -1, 0}, {2, 39, -1, 10}, {0, LEAST, 0, BAD}, {0, 0, MOST, BAD}, {MOST, 0, 0, BAD}};
        for (int[] one : asked) due(25, one[0] + ", " + one[1] + ", " + one[2], x.keep(one[0], one[1], one[2]), one[3]);
        x.smoke(7, 0);
        x.cloud(9);
        due(25, "with smoke and cloud", x.keep(0, 39, -1), 3);
        due(25, "the second", x.keep(0, 39, 1), 10);
        x.ice(20, 0);
        due(25, "ice in no night", x.keep(0, 39, -1), 3);
        x.ice(9, 0);
        due(25, "ahead of the ice", x.keep(0, 8, -1), 1);
        due(25, "ice", x.keep(0, 9, -1), NONE);
        due(25, "ice, the first", x.keep(0, 9, 0), NONE);
        due(25, "all nights", typed("9o", times("a", 40, ""), "").keep(0, 39, 39), 39);
    }

    private static void carrying() {
        FrostDebts x = village();
        int[][] asked = {{0, 0, -1, 1}, {0, 0, 0, 0}, {0, 0, 1, NONE}, {0, 7, -1, 0}, {0, 7, 0, NONE}, {3, 11, 0, 4}, {1, 2, -1, 0},
            {3, 12, -1, BAD}, {6, 0, -1, BAD}, {-1, 0, -1, BAD}, {0, -1, -1, BAD}, {0, 0, -2, BAD}, {0, 0, 3, BAD},
            {0, MOST, 0, BAD}, {MOST, 0, 0, BAD}, {0, 0, MOST, BAD}, {LEAST, 0, 0, BAD}, {0, 0, 2, NONE}};
        for (int[] one : asked) due(26, one[0] + ", " + one[1] + ", " + one[2], x.carry(one[0], one[1], one[2]), one[3]);
        FrostDebts many = typed("0o;0o;0o;0o;0o", "zz", "ab01400;ab01200;ac01000;ad01400;ab01301;ab01700");
        due(26, "three", many.carry(0, 0, -1), 3);
        int[] row = {0, 2, 4};
        for (int i = 0; i < 3; i++) due(26, "the row", many.carry(0, 0, i), row[i]);
        due(26, "four", many.carry(0, 1, -1), NONE);
        due(26, "four, the first", many.carry(0, 1, 0), NONE);
        for (int i = 0; i < 8; i++) many.ice(39, 7);
        due(26, "a plan has room", many.carry(0, 0, -1), 3);
    }

    private static void seeing() {
        FrostDebts x = village();
        int[][] bad = {{40, 0, 0}, {-1, 0, 0}, {0, 8, 0}, {0, -1, 0}, {0, 0, 2}, {0, 0, -1}, {LEAST, 0, 0}, {0, MOST, 0}, {0, 0, MOST}};
        for (int[] one : bad) due(27, one[0] + ", " + one[1] + ", " + one[2], x.seen(one[0], one[1], one[2]), BAD);
        for (int i = 1; i <= 8; i++) due(27, "more", x.seen(39, 7, 0), i);
        due(27, "full", x.seen(0, 0, 0), FULL);
        due(27, "bad ahead of full", x.seen(0, 0, 2), BAD);
        due(28, "all", x.forget(), 8);
        due(28, "again", x.forget(), 0);
        due(28, "none", x.count(7), 0);
    }

    private static void sheetOf(FrostDebts x, int s, int form, int... items) {
        x.sheet(s, form, items.length);
        for (int i = 0; i < items.length; i++) x.put(s, form, i, items[i]);
    }

    private static void reading() {
        FrostDebts x = village();
        for (int out : OUTSIDE) due(29, "sheet " + out, x.read(out), BAD);
        due(29, "sheet 4", x.read(4), BAD);
        due(29, "bad is no finding", x.count(8), 0);
        due(29, "lost", x.read(0), -11);
        due(29, "a finding", x.count(8), 1);
        sheetOf(x, 0, 0, 7, 0, 1, 3, 2, 1, 9, 9);
        due(29, "two are whole", x.read(0), 2);
        due(29, "two are seen", x.count(7), 2);
        due(29, "as they were", x.was(7), 63);
        sheetOf(x, 1, 2, 39, 7, 0, 39, 7, 2, 39, 7, 0);
        due(29, "up to the one that may not be", x.read(1), 1);
        due(29, "three are seen", x.count(7), 3);
        x.sheet(2, 1, 48);
        due(29, "up to full", x.read(2), 5);
        due(29, "full", x.count(7), 8);
        due(29, "nothing more", x.read(2), 0);
        x.sheet(3, 0, 2);
        x.forget();
        due(29, "none is whole", x.read(3), 0);
    }

    private static void wasAndAsk() {
        int all = (1 << 26) - 1;
        FrostDebts x = village();
        due(30, "all", x.was(7), all);
        due(30, "night 12", x.was(12), BAD);
        due(32, "night 12", x.ask(12), BAD);
        for (int out : OUTSIDE) {
            due(30, "night " + out, x.was(out), BAD);
            due(32, "night " + out, x.ask(out), BAD);
        }
        int[][] asked = {{7, 0}, {4, 1}, {2, 2}, {0, 2}};
        for (int[] one : asked) due(32, "night " + one[0], x.ask(one[0]), one[1]);
        x.seen(7, 0, 1);
        due(30, "less than 6", x.was(7), 63);
        due(30, "another night", x.was(8), all);
        due(30, "an earlier one", x.was(3), all);
        due(32, "all of these are cold: the least", x.ask(7), 0);
        x.seen(6, 0, 0);
        due(30, "6 and more", x.was(3), all - 63);
        x.forget();
        x.seen(7, 0, 0);
        due(30, "6 and more then", x.was(7), all - 63);
        due(30, "night 7 freezes, as told", x.was(8), 0);
        due(32, "none may be: the least", x.ask(8), 0);
        x.forget();
        x.seen(39, 7, 0);
        due(30, "a place that there is not", x.was(7), all);
        x.seen(0, 7, 1);
        due(30, "had no frost", x.was(7), 0);
        x.forget();
        x.cloud(7);
        x.seen(7, 0, 1);
        due(30, "clouds keep", x.was(7), 0);
        x.ice(7, 0);
        due(30, "not ice", x.was(7), all);
        x.wipe(0);
        due(32, "no places", x.ask(7), NONE);
    }

    private static void carriedIce() {
        FrostDebts x = village();
        due(31, "no ice", x.carried(), 0);
        x.ice(3, 0);
        x.ice(5, 0);
        x.ice(3, 7);
        x.ice(39, 0);
        due(31, "nothing seen", x.carried(), 15);
        x.seen(5, 0, 1);
        due(31, "one of two is enough", x.carried(), 15);
        x.seen(3, 0, 1);
        due(31, "the first must have been", x.carried(), 14);
        x.forget();
        x.seen(4, 0, 0);
        due(31, "the first was not", x.carried(), 1);
        x.ice(3, 0);
        due(31, "each of two alike hides the other", x.carried(), 0);
    }

    private static void chances() {
        FrostDebts x = village();
        x.cloud(7);
        long[][] asked = {{8, 1, 4, 1, 2}, {4, 1, 5, 15, 16}, {6, 0, 9, 485, 512}, {6, 0, 6, 0, 1}, {0, 0, 9, 1, 1}, {16, 0, 9, 0, 1},
            {3, 4, 11, 0, 1}, {16, 0, 0, 0, 1}, {0, 0, 6, 0, 1}};
        for (long[] one : asked) {
            for (int what = 0; what < 2; what++) {
                due(33, java.util.Arrays.toString(one), x.chance((int) one[0], (int) one[1], (int) one[2], what), one[3 + what]);
            }
        }
        x.smoke(8, 0);
        due(33, "smoke", x.chance(8, 0, 9, 0), 3);
        due(33, "smoke, below", x.chance(8, 0, 9, 1), 4);
        x.ice(4, 0);
        due(33, "ahead of ice", x.chance(16, 0, 3, 0), 0);
        due(33, "ice", x.chance(16, 0, 4, 0), 1);
        due(33, "ice, below", x.chance(16, 0, 4, 1), 1);
        FrostDebts cold = typed("9o", times("a", 12, ""), "");
        due(33, "the most", cold.chance(15, 0, 11, 0), 151728638820031L);
        due(33, "the most, below", cold.chance(15, 0, 11, 1), 281474976710656L);
        due(33, "nights that there are", typed("9o", "a", "").chance(8, 0, 11, 1), 2);
        int[][] bad = {{-1, 0, 0, 0}, {17, 0, 0, 0}, {0, -1, 0, 0}, {0, 5, 0, 0}, {0, 0, -1, 0}, {0, 0, 12, 0}, {0, 0, 0, -1}, {0, 0, 0, 2},
            {LEAST, 0, 0, 0}, {0, MOST, 0, 0}, {0, 0, MOST, 0}, {0, 0, 0, LEAST}};
        for (int[] one : bad) {
            due(33, java.util.Arrays.toString(one), x.chance(one[0], one[1], one[2], one[3]), Long.MIN_VALUE + 2);
        }
    }

    /** The lots of 4 are by 0: 0 0 0 1, by 5: 3 1 0 1, by 7: 0 2 0 2, by -1: 1 1 2 2 1 2 0. */
    private static void years() {
        FrostDebts x = typed("9o;0s", "aaaa", "ab01000;ab02100;ab03700");
        x.cloud(3);
        int[][] asked = {{0, 0, 3}, {5, 0, 0}, {7, 0, 1}, {-1, 0, 0}, {LEAST, 0, 3}, {7, 1, NONE}, {7, NONE, 1}, {7, 2, BAD}, {7, -2, BAD},
            {7, LEAST, BAD}, {7, MOST, BAD}};
        for (int[] one : asked) due(34, one[0] + ", " + one[1], x.year(one[0], one[1]), one[2]);
        FrostDebts three = typed("9o", "aaa", "ab01000;ab02039;ab03039");
        due(34, "all are clouded", three.year(0, 0), NONE);
        due(34, "all stand", three.year(0, NONE), 3);
        due(34, "none stands", three.year(7, NONE), 0);
        three.ice(2, 0);
        due(34, "ice", three.year(0, 0), 2);
        three.smoke(1, 0);
        due(34, "smoke", three.year(7, 0), 2);
        due(34, "no debts", new FrostDebts().year(7, NONE), 0);
    }

    private static void sheets() {
        FrostDebts x = new FrostDebts();
        int[][] asked = {{0, 0, 48, 48}, {1, 1, 0, 0}, {3, 2, 5, 5}, {4, 0, 1, BAD}, {-1, 0, 1, BAD}, {0, 3, 1, BAD}, {0, -1, 1, BAD},
            {0, 0, 49, BAD}, {0, 0, MOST, BAD}, {4, 0, -1, BAD}, {0, 3, -1, BAD}};
        for (int[] one : asked) due(35, java.util.Arrays.toString(one), x.sheet(one[0], one[1], one[2]), one[3]);
        due(35, "bad is no finding", x.count(8), 0);
        due(35, "size", x.sheet(0, 1, -1), -15);
        due(35, "the least size", x.sheet(0, 1, LEAST), -15);
        due(35, "a finding", x.count(8), 5);
        due(35, "it changes nothing", x.put(0, 0, 47, 9), 1);
        x.sheet(0, 0, 48);
        due(35, "a new row has 0", x.get(0, 0, 47), 0);
        due(36, "48", x.lose(0), 48);
        due(36, "lost", x.lose(0), -11);
        due(36, "a finding", x.count(8), 1);
        due(36, "none", x.lose(1), 0);
        due(36, "sheet 4", x.lose(4), BAD);
        for (int out : OUTSIDE) due(36, "sheet " + out, x.lose(out), BAD);
    }

    private static void putting() {
        FrostDebts x = new FrostDebts();
        x.sheet(0, 0, 3);
        x.sheet(1, 1, 3);
        x.sheet(2, 2, 3);
        int[][] kept = {{0, 200, -56}, {0, -129, 127}, {1, 40000, -25536}, {1, 65536, 0}, {2, LEAST, LEAST}, {2, 70000, 70000}};
        for (int[] one : kept) {
            due(37, "put " + one[1], x.put(one[0], one[0], 2, one[1]), 1);
            due(38, "get " + one[1], x.get(one[0], one[0], 2), one[2]);
        }
        int[][] refused = {{4, 0, 0, BAD, 0}, {-1, 0, 0, BAD, 0}, {0, 3, 0, BAD, 0}, {0, -1, 0, BAD, 0}, {3, 3, 9, BAD, 0},
            {3, 2, 9, -11, 1}, {0, 1, 9, -13, 3}, {0, 0, 3, -12, 2}, {0, 0, -1, -12, 2}, {2, 2, MOST, -12, 2}, {1, 2, 0, -13, 3}};
        for (int[] one : refused) {
            String call = one[0] + ", " + one[1] + ", " + one[2];
            int before = x.count(8);
            due(37, call, x.put(one[0], one[1], one[2], 5), one[3]);
            due(37, call + ": finding", x.count(8), one[4] == 0 ? before : one[4]);
            x.lose(3);
            due(38, call, x.get(one[0], one[1], one[2]), LEAST);
            due(38, call + ": finding", x.count(8), one[4] == 0 ? 1 : one[4]);
        }
        due(37, "nothing changed", x.get(0, 0, 2), 127);
    }

    private static void copying() {
        FrostDebts x = new FrostDebts();
        sheetOf(x, 0, 1, 1, 2, 3, 4, 5);
        x.sheet(1, 1, 3);
        x.sheet(2, 2, 5);
        due(39, "up within itself", x.copy(0, 0, 0, 1, 4), 1);
        int[] up = {1, 1, 2, 3, 4};
        for (int i = 0; i < 5; i++) due(39, "item " + i, x.get(0, 1, i), up[i]);
        due(39, "down within itself", x.copy(0, 1, 0, 0, 4), 1);
        int[] down = {1, 2, 3, 4, 4};
        for (int i = 0; i < 5; i++) due(39, "item " + i, x.get(0, 1, i), down[i]);
        due(39, "to another", x.copy(0, 2, 1, 1, 2), 1);
        int[] other = {0, 3, 4};
        for (int i = 0; i < 3; i++) due(39, "item " + i, x.get(1, 1, i), other[i]);
        int[][] asked = {{0, 5, 1, 3, 0, 1}, {0, 0, 4, 0, 1, BAD}, {-1, 0, 0, 0, 1, BAD}, {4, 0, 3, 0, 1, BAD}, {3, 0, 2, 0, 1, -11},
            {0, 0, 3, 0, 1, -11}, {0, 0, 2, 0, 1, -14}, {0, -1, 2, 0, 1, -14}, {0, 0, 2, 0, 0, -14}, {0, -1, 1, 0, 1, -12}, {0, 0, 1, -1, 1, -12},
            {0, 0, 1, 0, -1, -12}, {0, 0, 1, 0, 4, -12}, {0, 4, 1, 0, 2, -12}, {0, 6, 1, 0, 0, -12}, {0, 0, 1, 4, 0, -12},
            {0, MOST, 1, 0, MOST, -12}, {0, 1, 1, 1, MOST, -12}, {0, 0, 1, 0, LEAST, -12}};
        int latest = 0;
        for (int[] one : asked) {
            due(39, java.util.Arrays.toString(one), x.copy(one[0], one[1], one[2], one[3], one[4]), one[5]);
            if (one[5] <= -11) latest = -10 - one[5];
            due(39, "finding", x.count(8), latest);
        }
        for (int i = 0; i < 3; i++) due(39, "unchanged item " + i, x.get(1, 1, i), other[i]);
    }

    private static void writing() {
        FrostDebts x = village();
        due(40, "lost", x.write(0, 0), -11);
        due(40, "a finding", x.count(8), 1);
        int[][] bad = {{2, 0}, {-1, 0}, {0, 4}, {0, -1}, {MOST, 0}, {0, LEAST}};
        for (int[] one : bad) due(40, one[0] + ", " + one[1], x.write(one[0], one[1]), BAD);
        x.sheet(0, 2, 48);
        x.put(0, 2, 40, 77);
        due(40, "40 at most", x.write(0, 0), 40);
        int[] sums = {50, 50, 50, 70, 50, 50, 50, 40};
        for (int n = 0; n < 8; n++) due(40, "night " + n, x.get(0, 2, n), sums[n]);
        due(40, "night 39", x.get(0, 2, 39), 40);
        due(40, "behind them", x.get(0, 2, 40), 77);
        x.sheet(1, 0, 5);
        due(40, "as many as there are", x.write(1, 1), 5);
        int[] hanging = {9, 9, 9, 11, 9};
        for (int n = 0; n < 5; n++) due(40, "hangs " + n, x.get(1, 0, n), hanging[n]);
        FrostDebts rich = typed("0o", "z", "ab99000;ab99000");
        rich.sheet(2, 0, 1);
        rich.write(0, 2);
        due(40, "the lowest bits", rich.get(2, 0, 0), -58);
        rich.sheet(2, 0, 0);
        due(40, "no items", rich.write(0, 2), 0);
    }

    private static void counting() {
        FrostDebts x = village();
        x.cloud(1);
        x.smoke(1, 1);
        x.smoke(1, 1);
        x.ice(30, 7);
        x.seen(1, 1, 1);
        x.lose(0);
        int[] counts = {5, 12, 6, 14, 12, 47, 4, 1, 1};
        for (int what = 0; what < 9; what++) due(41, "what " + what, x.count(what), counts[what]);
        due(41, "what 9", x.count(9), BAD);
        for (int out : OUTSIDE) due(41, "what " + out, x.count(out), BAD);
        x.type(0, 'x');
        due(41, "none with a fault", x.count(0), 0);
        due(41, "but bytes", x.count(3), 15);
    }

    private static long folded(long[]... rows) {
        long h = 17;
        for (long[] row : rows) for (long v : row) h = 31 * h + v;
        return h;
    }

    /** One open place, six nights (10 10 10 5 5 5), one debt; the lots by 7 are 0 2 0 2 3 1. */
    private static void digests() {
        due(42, "a new one", new FrostDebts().digest(), -6398309085025361070L);
        FrostDebts x = typed("0o", "kkkfff", "ab10001");
        x.cloud(3);
        x.ice(9, 0);
        x.seen(39, 0, 1);
        long all = (1 << 26) - 1;
        long c3 = 4096 - 125;
        long[] counts = {1, 6, 1, 2, 6, 7, 2, 1};
        long[] faults = {NONE, NONE, NONE};
        long[] place = {0, 0, 5, 0, 4, 2, 4, c3, 4096, 3};
        long[] debt = {0, 1, 10, 0, 1, 3, 0, 0, 3, 0, 3};
        long[] a = {0, 0, 4, 0, NONE};
        long[] b = {0, 0, 0, 0, NONE};
        long[] night0 = {0, 0, all, 0};
        long[] night5 = {1, 0, all, 0};
        long[] later = {1, 0, BAD, BAD};
        long[] last = {0, 1, 0};
        due(42, "a village", x.digest(), folded(counts, faults, place, debt, a, b, b, b, b, b, night0, night5, later, later, last));
        x.lose(0);
        due(42, "findings are no part", x.digest(), folded(counts, faults, place, debt, a, b, b, b, b, b, night0, night5, later, later, last));
    }

    public static void main(String[] args) {
        newObject();
        typing();
        wiping();
        undoing();
        faults();
        placesNightsDebts();
        zeros();
        clouds();
        smokes();
        ices();
        backs();
        frost();
        standing();
        owing();
        plans();
        keeping();
        carrying();
        seeing();
        reading();
        wasAndAsk();
        carriedIce();
        chances();
        years();
        sheets();
        putting();
        copying();
        writing();
        counting();
        digests();
        System.out.println(checks + " answers looked at, " + wrong + " wrong");
        if (wrong != 0) System.exit(1);
    }
}
