/** Clouds, smoke, ice and frost: their terms, and promises 10 to 17. */
final class FrostEdges extends Edges {
    static void look(Sentences s) {
        warmthTerms(s);
        cloudsAndSmoke(s);
        freezesTerms(s);
        iceTerms(s);
        firstTerms(s);
        cloud(s);
        smoke(s);
        ice(s);
        back(s);
        warmth(s);
        freezes(s);
        firstAndHad(s);
    }

    private static void warmthTerms(Sentences s) {
        s.says(TERMS, "WARMTH in a NIGHT (that there is) of a PLACE: how WARM the NIGHT is, less its HEIGHT");
        FrostDebts x = typed("0o;1o;9o", "az", "");
        int[][] want = {{0, -1, -9}, {25, 24, 16}};
        for (int n = 0; n < 2; n++) for (int p = 0; p < 3; p++) s.due(n + ", " + p, x.warmth(n, p), want[n][p]);
        s.due("a night that there is not", x.warmth(2, 0), -1002);

        s.says(TERMS, "in a hollow 3 less");
        s.due("0h", typed("0h", "k", "").warmth(0, 0), 7);
        s.due("9h, the coldest", typed("9h", "a", "").warmth(0, 0), -12);

        s.says(TERMS, "by walls 2 more");
        s.due("0w", typed("0w", "k", "").warmth(0, 0), 12);
        s.due("9w", typed("9w", "a", "").warmth(0, 0), -7);

        s.says(TERMS, "by the sea 4 more");
        s.due("0s, the warmest", typed("0s", "z", "").warmth(0, 0), 29);
        s.due("9s", typed("9s", "a", "").warmth(0, 0), -5);
    }

    private static void cloudsAndSmoke(Sentences s) {
        s.says(TERMS, "CLOUDS (NIGHTS, as told, 8 at most)");
        FrostDebts x = typed("0o", warmThenCold(0, 40), "");
        for (int i = 0; i < 8; i++) s.due("cloud " + i, x.cloud(i), i + 1);
        s.due("one too many", x.cloud(8), FULL);
        s.due("eight are clouded", x.first(0), 8);
        FrostDebts same = typed("0o", "a", "");
        for (int i = 1; i <= 8; i++) s.due("the same night", same.cloud(0), i);
        s.due("once more", same.cloud(0), FULL);
        same.back(0);
        s.due("seven are enough", same.first(0), NONE);
        FrostDebts two = typed("0o", "a", "");
        two.cloud(0);
        two.cloud(0);
        s.due("two are as one", two.first(0), NONE);
        two.back(0);
        s.due("one is left", two.first(0), NONE);
        FrostDebts early = new FrostDebts();
        s.due("told ahead of its night", early.cloud(0), 1);
        typeAll(early, 0, "0o");
        typeAll(early, 1, "aa");
        s.due("it is there then", early.first(0), 1);

        s.says(TERMS, "SMOKE (a NIGHT and a PLACE 0 to 7, 8 at most)");
        FrostDebts y = typed(times("0o", 8, ";"), warmThenCold(0, 40), "");
        for (int i = 0; i < 8; i++) s.due("smoke " + i, y.smoke(0, i), i + 1);
        s.due("one too many", y.smoke(1, 0), FULL);
        for (int p = 0; p < 8; p++) s.due("place " + p + " has smoke", y.first(p), 1);
        s.due("place 8", y.smoke(0, 8), BAD);
        s.due("place -1", y.smoke(0, -1), BAD);
        FrostDebts told = new FrostDebts();
        s.due("told ahead of its place", told.smoke(0, 7), 1);
        typeAll(told, 0, times("0o", 8, ";"));
        typeAll(told, 1, "aa");
        s.due("it is there then", told.first(7), 1);
        s.due("not elsewhere", told.first(6), 0);
        told.smoke(0, 7);
        s.due("two are as one", told.first(7), 1);
        told.back(1);
        s.due("one is left", told.first(7), 1);
    }

    /** For each ZERO a night of just that warmth, and one of one less. */
    private static void freezesTerms(Sentences s) {
        s.says(TERMS, "if WARMTH is less than ZERO");
        for (int zero = 0; zero <= 25; zero++) {
            FrostDebts x = typed("0o;1o", "" + (char) ('a' + zero), "");
            x.zero(zero);
            s.due("as warm as " + zero, x.freezes(0, 0), 0);
            s.due("one less than " + zero, x.freezes(0, 1), 1);
        }

        s.says(TERMS, "ZERO (0 to 25; 6 at first)");
        FrostDebts zeros = typed("0o", "fg", "");
        s.due("5 freezes at first", zeros.freezes(0, 0), 1);
        s.due("6 does not", zeros.freezes(1, 0), 0);
        s.due("26", zeros.zero(26), BAD);
        s.due("-1", zeros.zero(-1), BAD);
        s.due("25", zeros.zero(25), 6);
        s.due("0", zeros.zero(0), 25);

        s.says(TERMS, "and the NIGHT has no CLOUD");
        FrostDebts clouded = typed("0o;9h", "aaa", "");
        clouded.cloud(1);
        int[] want = {1, 0, 1};
        for (int n = 0; n < 3; n++) for (int p = 0; p < 2; p++) s.due(n + ", " + p, clouded.freezes(n, p), want[n]);

        s.says(TERMS, "and the PLACE no SMOKE in it");
        FrostDebts smoked = typed("0o;9h;0o", "aaa", "");
        smoked.smoke(1, 1);
        for (int n = 0; n < 3; n++) {
            for (int p = 0; p < 3; p++) s.due(n + ", " + p, smoked.freezes(n, p), n == 1 && p == 1 ? 0 : 1);
        }

        s.says(TERMS, "nor is it by the sea in one of the first 20 NIGHTS (0 to 19)");
        FrostDebts sea = typed("9s;9w;0s", warmThenCold(0, 40), "");
        for (int n = 0; n < 40; n++) {
            s.due("the sea in " + n, sea.freezes(n, 0), n < 20 ? 0 : 1);
            s.due("walls in " + n, sea.freezes(n, 1), 1);
        }
        s.due("the low sea", sea.first(2), 20);
        s.due("twenty nights alone", typed("9s", warmThenCold(0, 20), "").first(0), NONE);
    }

    private static void iceTerms(Sentences s) {
        s.says(TERMS, "ICE (a NIGHT and a PLACE, 8 at most)");
        FrostDebts x = typed(times("0o", 8, ";"), warmThenCold(40, 0), "");
        for (int i = 0; i < 8; i++) s.due("ice " + i, x.ice(39, i), i + 1);
        s.due("one too many", x.ice(0, 0), FULL);
        for (int p = 0; p < 8; p++) s.due("place " + p, x.first(p), 39);
        FrostDebts two = typed("0o", "zz", "");
        two.ice(1, 0);
        two.ice(1, 0);
        s.due("two are as one", two.first(0), 1);
        two.back(2);
        s.due("one is left", two.first(0), 1);

        s.says(TERMS, "if there are both");
        FrostDebts y = typed("0o;0o", "zz", "");
        y.ice(1, 1);
        y.ice(2, 1);
        y.ice(1, 2);
        y.ice(0, 7);
        s.due("both are there", y.first(1), 1);
        s.due("others have none", y.first(0), NONE);
        y.undo(1);
        s.due("the night is gone", y.first(1), NONE);
        typeAll(y, 1, "zz");
        s.due("three nights", y.freezes(2, 1), 2);
        s.due("no such place", y.freezes(1, 2), BAD);
        typeAll(y, 0, ";0o");
        s.due("there is one now", y.freezes(1, 2), 2);
        s.due("place 2", y.first(2), 1);

        s.says(TERMS, "it is as if it froze there then, CLOUD, SMOKE or not");
        FrostDebts z = typed("0o;0s", "zz", "ab01000;ab01100");
        z.cloud(1);
        z.smoke(1, 0);
        z.smoke(1, 1);
        z.ice(1, 0);
        z.ice(1, 1);
        s.due("place 0", z.first(0), 1);
        s.due("by the sea, early", z.first(1), 1);
        s.due("both have had frost", z.had(1), 3);
        s.due("no debt stands behind it", z.stands(0, 1) + z.stands(1, 1), 0);
        s.due("both stand ahead of it", z.stands(0, 0) + z.stands(1, 0), 2);
    }

    private static void firstTerms(Sentences s) {
        s.says(TERMS, "FIRST of a PLACE: the first NIGHT in which it FREEZES, or there is ICE");
        for (int n = 0; n < 40; n++) {
            s.due("frost in " + n, typed("0o", warmThenCold(n, 40 - n), "").first(0), n);
            FrostDebts iced = typed("0o", warmThenCold(40, 0), "");
            iced.ice(n, 0);
            s.due("ice in " + n, iced.first(0), n);
        }
        FrostDebts both = typed("0o", "zzaz", "");
        both.ice(3, 0);
        s.due("frost ahead of ice", both.first(0), 2);
        both.ice(1, 0);
        s.due("ice ahead of frost", both.first(0), 1);

        s.says(TERMS, "WARMTH in a NIGHT of a PLACE; whether it FREEZES then, or there is ICE; FIRST");
        s.due("warmth", both.warmth(2, 0), 0);
        s.due("freezes", both.freezes(2, 0), 1);
        s.due("ice", both.freezes(3, 0), 2);
        s.due("first", both.first(0), 1);
    }

    private static void cloud(Sentences s) {
        s.says(10, "A CLOUD more (0 to 39): how many.");
        FrostDebts x = typed("0o", warmThenCold(0, 40), "");
        s.due("0", x.cloud(0), 1);
        s.due("39", x.cloud(39), 2);
        s.due("night 0 is clouded", x.freezes(0, 0), 0);
        s.due("night 39 too", x.freezes(39, 0), 0);
        s.due("the others are not", x.keep(0, 39, NONE), 38);

        s.says(10, "BAD;");
        for (int n : new int[] {LEAST, -1, 40, MOST}) s.due("night " + n, x.cloud(n), BAD);
        s.due("none more", x.count(6), 2);

        s.says(10, "FULL.");
        for (int i = 3; i <= 8; i++) s.due("more", x.cloud(i), i);
        s.due("full", x.cloud(20), FULL);
        s.due("bad ahead of it", x.cloud(40), BAD);
        s.due("not clouded", x.freezes(20, 0), 1);
        s.due("smoke and ice have room", x.smoke(1, 0) + x.ice(1, 0), 2);
        s.due("eight, and these", x.count(6), 10);
        x.back(0);
        s.due("room again", x.cloud(20), 8);
        s.due("clouded", x.freezes(20, 0), 0);
    }

    private static void smoke(Sentences s) {
        s.says(11, "SMOKE more: how many.");
        FrostDebts x = typed(times("0o", 8, ";"), warmThenCold(0, 40), "");
        s.due("0, 0", x.smoke(0, 0), 1);
        s.due("39, 7", x.smoke(39, 7), 2);
        s.due("in 0, 0", x.freezes(0, 0), 0);
        s.due("in 39, 7", x.freezes(39, 7), 0);
        s.due("not in 39, 0", x.freezes(39, 0), 1);
        s.due("not in 0, 7", x.freezes(0, 7), 1);

        s.says(11, "BAD;");
        for (int n : new int[] {LEAST, -1, 40, MOST}) s.due("night " + n, x.smoke(n, 0), BAD);
        for (int p : new int[] {LEAST, -1, 8, MOST}) s.due("place " + p, x.smoke(0, p), BAD);
        s.due("none more", x.count(6), 2);

        s.says(11, "FULL.");
        for (int i = 3; i <= 8; i++) s.due("more", x.smoke(i, i - 1), i);
        s.due("full", x.smoke(20, 0), FULL);
        s.due("bad ahead of it", x.smoke(40, 0), BAD);
        s.due("the place, too", x.smoke(20, 8), BAD);
        s.due("no smoke", x.freezes(20, 0), 1);
        s.due("clouds and ice have room", x.cloud(1) + x.ice(1, 0), 2);
        x.back(1);
        s.due("room again", x.smoke(20, 0), 8);
        s.due("smoke", x.freezes(20, 0), 0);
    }

    private static void ice(Sentences s) {
        s.says(12, "ICE more (0 to 39, 0 to 7; of what there is not it is nothing): how many.");
        FrostDebts x = typed(times("0o", 8, ";"), warmThenCold(40, 0), "");
        s.due("0, 0", x.ice(0, 0), 1);
        s.due("39, 7", x.ice(39, 7), 2);
        s.due("in 0, 0", x.freezes(0, 0), 2);
        s.due("in 39, 7", x.freezes(39, 7), 2);
        s.due("not in 39, 0", x.freezes(39, 0), 0);
        s.due("not in 0, 7", x.freezes(0, 7), 0);
        FrostDebts none = new FrostDebts();
        s.due("of nothing", none.ice(39, 7), 1);
        s.due("none has had it", none.had(39), 0);
        FrostDebts short1 = typed("0o", "z", "ab01000");
        s.due("of a night that there is not", short1.ice(1, 0), 1);
        s.due("of a place that there is not", short1.ice(0, 1), 2);
        s.due("no frost", short1.first(0), NONE);
        s.due("no debt ends", short1.never(), 1);

        s.says(12, "BAD;");
        for (int n : new int[] {LEAST, -1, 40, MOST}) s.due("night " + n, x.ice(n, 0), BAD);
        for (int p : new int[] {LEAST, -1, 8, MOST}) s.due("place " + p, x.ice(0, p), BAD);
        s.due("none more", x.count(6), 2);

        s.says(12, "FULL.");
        for (int i = 3; i <= 8; i++) s.due("more", x.ice(i, i - 1), i);
        s.due("full", x.ice(20, 0), FULL);
        s.due("bad ahead of it", x.ice(40, 0), BAD);
        s.due("the place, too", x.ice(20, 8), BAD);
        s.due("no ice", x.freezes(20, 0), 0);
        s.due("clouds and smoke have room", x.cloud(1) + x.smoke(1, 0), 2);
        x.back(2);
        s.due("room again", x.ice(20, 0), 8);
        s.due("ice", x.freezes(20, 0), 2);
    }

    private static void back(Sentences s) {
        s.says(13, "The last CLOUD (what = 0), SMOKE (1), ICE (2) is undone: how many are left.");
        FrostDebts x = typed("0o;0o;0o", "aaaaaz", "");
        x.cloud(0);
        x.smoke(1, 0);
        x.ice(5, 1);
        x.cloud(2);
        x.smoke(3, 0);
        x.ice(5, 2);
        s.due("frost at first", x.first(0), 4);
        s.due("a cloud", x.back(0), 1);
        s.due("it was the one in 2", x.first(0), 2);
        s.due("smoke", x.back(1), 1);
        s.due("it was the one in 3", x.freezes(3, 0), 1);
        s.due("the one in 1 is left", x.freezes(1, 0), 0);
        s.due("ice", x.back(2), 1);
        s.due("it was the one in place 2", x.freezes(5, 2), 0);
        s.due("the one in place 1 is left", x.freezes(5, 1), 2);
        for (int what = 0; what < 3; what++) s.due("the first " + what, x.back(what), 0);
        s.due("none", x.count(6), 0);
        s.due("frost", x.first(0), 0);

        s.says(13, "BAD;");
        x.cloud(0);
        x.smoke(0, 0);
        x.ice(0, 0);
        for (int what : new int[] {LEAST, -1, 3, MOST}) s.due("what " + what, x.back(what), BAD);
        s.due("as many", x.count(6), 3);

        s.says(13, "NOT: there is none.");
        FrostDebts y = village();
        for (int what = 0; what < 3; what++) s.due("none of " + what, y.back(what), NOT);
        s.due("no fewer than none", y.count(6), 0);
        y.cloud(7);
        s.due("a cloud is no smoke", y.back(1), NOT);
        s.due("nor ice", y.back(2), NOT);
        s.due("it is left", y.first(0), 8);
        y.back(0);
        y.smoke(7, 0);
        s.due("smoke is no cloud", y.back(0), NOT);
        s.due("nor ice", y.back(2), NOT);
        s.due("it is left", y.first(0), 8);
        y.back(1);
        y.ice(0, 0);
        s.due("ice is no cloud", y.back(0), NOT);
        s.due("nor smoke", y.back(1), NOT);
        s.due("it is left", y.first(0), 0);
    }

    private static void warmth(Sentences s) {
        s.says(14, "WARMTH, as any number.");
        FrostDebts x = typed("5o;4o;6o;2h;9h", "d", "");
        int[] want = {-2, -1, -3, -2, -9};
        for (int p = 0; p < 5; p++) s.due("no refusal: " + p, x.warmth(0, p), want[p]);
        x.cloud(0);
        x.ice(0, 0);
        s.due("under clouds and ice", x.warmth(0, 0), -2);

        s.says(14, "BAD: -1002.");
        for (int n : new int[] {LEAST, -1, 1, 39, MOST}) s.due("night " + n, x.warmth(n, 0), -1002);
        for (int p : new int[] {LEAST, -1, 5, 7, MOST}) s.due("place " + p, x.warmth(0, p), -1002);
    }

    private static void freezes(Sentences s) {
        s.says(15, "Whether it FREEZES (1), or there is ICE (2, FREEZES or not), else 0.");
        FrostDebts x = typed("0o;0o", "az", "");
        s.due("it freezes", x.freezes(0, 0), 1);
        s.due("it does not", x.freezes(1, 0), 0);
        x.ice(0, 0);
        x.ice(1, 0);
        s.due("it freezes, and ice", x.freezes(0, 0), 2);
        s.due("ice alone", x.freezes(1, 0), 2);
        s.due("no ice elsewhere", x.freezes(0, 1), 1);
        x.cloud(0);
        x.smoke(1, 0);
        s.due("ice under a cloud", x.freezes(0, 0), 2);
        s.due("ice in smoke", x.freezes(1, 0), 2);
        s.due("a cloud elsewhere", x.freezes(0, 1), 0);

        s.says(15, "BAD.");
        for (int n : new int[] {LEAST, -1, 2, 39, MOST}) s.due("night " + n, x.freezes(n, 0), BAD);
        for (int p : new int[] {LEAST, -1, 2, 7, MOST}) s.due("place " + p, x.freezes(0, p), BAD);
        x.ice(2, 2);
        s.due("ice in what there is not", x.freezes(2, 2), BAD);
    }

    private static void firstAndHad(Sentences s) {
        s.says(16, "FIRST; NONE.");
        FrostDebts x = typed("0o;9h;9s", "gf", "");
        s.due("the second night", x.first(0), 1);
        s.due("the first night", x.first(1), 0);
        s.due("none", x.first(2), NONE);
        s.due("none without nights", typed("9h", "", "").first(0), NONE);

        s.says(16, "BAD.");
        for (int p : new int[] {LEAST, -1, 3, 7, MOST}) s.due("place " + p, x.first(p), BAD);

        s.says(17, "PLACES that have had FIRST by a NIGHT (0 to 39), as bits.");
        FrostDebts y = typed("7o;6o;5o;4o;3o;2o;1o;0o", "mlkjihgf", "");
        for (int n = 0; n < 8; n++) s.due("by " + n, y.had(n), (2 << n) - 1);
        s.due("by 39, when there are 8 nights", y.had(39), 255);
        FrostDebts late = typed("0o;0s", warmThenCold(39, 1), "");
        s.due("by 38", late.had(38), 0);
        s.due("by 39", late.had(39), 3);
        s.due("without nights", typed("9h", "", "").had(0), 0);
        s.due("without places", new FrostDebts().had(39), 0);

        s.says(TERMS, "PLACES that have had theirs by a NIGHT, as bits");
        s.due("only the third", village().had(2), 4);
        s.due("still only it", village().had(3), 4);
        s.due("the second and third", village().had(4), 6);

        s.says(17, "BAD.");
        for (int n : new int[] {LEAST, -1, 40, MOST}) s.due("night " + n, y.had(n), BAD);
    }
}
