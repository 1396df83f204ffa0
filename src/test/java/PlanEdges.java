/** Where to owe, smoke to keep, ice to carry: their terms, and promises 24 to 26. */
final class PlanEdges extends Edges {
    static void look(Sentences s) {
        whereTerms(s);
        where(s);
        keepTerms(s);
        keep(s);
        carryTerms(s);
        carry(s);
    }

    /** First frosts at 3, 1, none, 1, none; two debts, from 0 and from 2 on. */
    private static FrostDebts fivePlaces() {
        return typed("0o;2o;0s;2o;0s", "khgf", "ab01000;ab01702");
    }

    private static void whereTerms(Sentences s) {
        s.says(TERMS, "WHERE of a DEBT: the PLACE (that there is), in place of its own, by which it STANDS for fewest NIGHTS");
        FrostDebts x = fivePlaces();
        s.due("the place", x.where(0, 0, 0), 1);
        s.due("for one night", x.where(0, 0, 1), 1);
        s.due("its own may be the one", typed("9o;0o", "k", "ab01000").where(0, 0, 0), 0);
        s.due("its own may be none", typed("0o", "z", "ab01700").where(0, 0, 0), 0);
        s.due("then it would stand", typed("0o", "z", "ab01700").where(0, 0, 1), 40);
        s.due("the last of eight", typed(times("0o", 7, ";") + ";9o", "k", "ab01000").where(0, 0, 0), 7);

        s.says(TERMS, "(one by which it is NOTHING for none)");
        s.due("late in place 1, so for none", x.where(1, 0, 1), 0);
        s.due("the place", x.where(1, 0, 0), 1);
        FrostDebts alike = typed("9s;0o;1o", "zgf", "ab01002");
        s.due("just in time in 1 is like too late in 2", alike.where(0, 0, 0), 1);
        s.due("both for none", alike.where(0, 0, 1), 0);

        s.says(TERMS, "of like ones the least; LEND");
        s.due("1 and 3 are like", x.where(0, 0, 0), 1);
        s.due("all are like", typed(times("9o", 8, ";"), "a", "ab01700").where(0, 0, 0), 0);

        s.says(TERMS, "LEND: by which for most, of like ones the least: the PLACE; for how many");
        s.due("2 and 4 are like", x.where(0, 1, 0), 2);
        s.due("for all", x.where(0, 1, 1), 40);
        s.due("from 2 on", x.where(1, 1, 1), 38);
        s.due("all are nothing", typed("9o;9o", "a", "ab01001").where(0, 1, 0), 0);
        s.due("for none", typed("9o;9o", "a", "ab01001").where(0, 1, 1), 0);
        s.due("the last of eight", typed(times("9o", 7, ";") + ";0o", "k", "ab01000").where(0, 1, 0), 7);

        s.says(TERMS, "NONE: there are no PLACES. KEEP");
        FrostDebts none = typed("", "z", "ab01000");
        for (int k = 0; k < 4; k++) s.due("no places " + k, none.where(0, k / 2, k % 2), NONE);
        none.type(0, '0');
        for (int k = 0; k < 4; k++) s.due("a fault " + k, none.where(0, k / 2, k % 2), NONE);
    }

    private static void where(Sentences s) {
        s.says(24, "WHERE (most = 0), LEND (1): the PLACE (what = 0), for how many (1); NONE.");
        FrostDebts x = fivePlaces();
        int[][] want = {{1, 1, 2, 40}, {1, 0, 2, 38}};
        for (int d = 0; d < 2; d++) {
            for (int k = 0; k < 4; k++) s.due(d + ", " + k / 2 + ", " + k % 2, x.where(d, k / 2, k % 2), want[d][k]);
        }
        s.due("none", typed("", "", "ab01000").where(0, 0, 0), NONE);

        s.says(24, "BAD.");
        for (int d : new int[] {LEAST, -1, 2, 8, MOST}) s.due("debt " + d, x.where(d, 0, 0), BAD);
        for (int most : new int[] {LEAST, -1, 2, MOST}) s.due("most " + most, x.where(0, most, 0), BAD);
        for (int what : new int[] {LEAST, -1, 2, MOST}) s.due("what " + what, x.where(0, 0, what), BAD);
        s.due("without places, too", typed("", "", "ab01000").where(1, 0, 0), BAD);
    }

    private static void keepTerms(Sentences s) {
        s.says(TERMS, "KEEP of a PLACE up to a NIGHT: NIGHTS in which there must be SMOKE more,"
            + " so that it does not FREEZE there up to that: how many; the i-th");
        FrostDebts x = typed("0o;0s", "azaaaza", "");
        x.smoke(2, 0);
        x.cloud(3);
        int[] upTo = {1, 1, 1, 1, 2, 2, 3};
        for (int n = 0; n < 7; n++) s.due("up to " + n, x.keep(0, n, NONE), upTo[n]);
        s.due("up to 39", x.keep(0, 39, NONE), 3);
        int[] nights = {0, 4, 6};
        for (int i = 0; i < 3; i++) s.due("the " + i, x.keep(0, 39, i), nights[i]);
        s.due("no more", x.keep(0, 39, 3), NONE);
        s.due("none early by the sea", x.keep(1, 39, NONE), 0);
        x.smoke(0, 0);
        x.smoke(4, 0);
        x.smoke(6, 0);
        s.due("with these no more must be", x.keep(0, 39, NONE), 0);
        s.due("it freezes no more", x.first(0), NONE);

        s.says(TERMS, "NONE: there is ICE.");
        FrostDebts y = typed("0o;0o", "aaaa", "");
        y.ice(2, 0);
        s.due("up to the night ahead of it", y.keep(0, 1, NONE), 2);
        s.due("up to its night", y.keep(0, 2, NONE), NONE);
        s.due("not even the first", y.keep(0, 2, 0), NONE);
        s.due("up to 39", y.keep(0, 39, NONE), NONE);
        s.due("it is in place 0 alone", y.keep(1, 39, NONE), 4);
        y.ice(4, 1);
        s.due("ice in a night that there is not", y.keep(1, 39, NONE), 4);
        y.smoke(2, 0);
        s.due("smoke or not", y.keep(0, 2, NONE), NONE);
    }

    private static void keep(Sentences s) {
        s.says(25, "KEEP (NIGHT 0 to 39): how many (i = NONE), the i-th (0 to 39; NONE); NONE.");
        FrostDebts x = typed("0o", warmThenCold(0, 40), "");
        for (int n = 0; n < 40; n++) s.due("up to " + n, x.keep(0, n, NONE), n + 1);
        for (int i = 0; i < 40; i++) s.due("the " + i, x.keep(0, 39, i), i);
        s.due("up to 38 the 39th", x.keep(0, 38, 39), NONE);
        s.due("up to 0 the first", x.keep(0, 0, 0), 0);
        s.due("up to 0 the second", x.keep(0, 0, 1), NONE);
        s.due("no frost, how many", typed("0o", "z", "").keep(0, 39, NONE), 0);
        s.due("no frost, the first", typed("0o", "z", "").keep(0, 39, 0), NONE);
        s.due("no nights", typed("0o", "", "").keep(0, 0, NONE), 0);

        s.says(25, "BAD.");
        for (int p : new int[] {LEAST, -1, 1, 7, MOST}) s.due("place " + p, x.keep(p, 0, NONE), BAD);
        for (int n : new int[] {LEAST, -1, 40, MOST}) s.due("night " + n, x.keep(0, n, NONE), BAD);
        for (int i : new int[] {LEAST, -2, 40, MOST}) s.due("i " + i, x.keep(0, 39, i), BAD);
        x.ice(0, 0);
        s.due("ahead of ice, too", x.keep(0, 39, 40), BAD);
    }

    private static void carryTerms(Sentences s) {
        s.says(TERMS, "CARRY of a PERSON: the fewest blocks of ICE more (0 to 3)");
        String eight = times("0o", 8, ";");
        for (int n = 0; n <= 4; n++) {
            String debts = "ab01000;ab01100;ab01200;ab01300".substring(0, Math.max(0, 8 * n - 1));
            s.due(n + " places", typed(eight, "z", debts).carry(0, 0, NONE), n <= 3 ? n : NONE);
        }
        s.due("three debts in one place", typed(eight, "z", times("ab01500", 3, ";")).carry(0, 0, NONE), 1);
        s.due("others owe in others", typed(eight, "z", "ab01500;cb01600").carry(0, 0, NONE), 1);
        s.due("what is lent does not matter", typed(eight, "z", "ab01500").carry(1, 0, NONE), 0);
        s.due("in a place that there is not", typed("0o", "z", "ab01500").carry(0, 0, NONE), 0);
        FrostDebts iced = typed(eight, "zz", "ab01500;ab01600");
        iced.ice(1, 5);
        s.due("ice that there is helps", iced.carry(0, 1, NONE), 1);
        s.due("not ahead of it", iced.carry(0, 0, NONE), 2);

        s.says(TERMS, "all in one told NIGHT that there is");
        FrostDebts x = typed("0o;0o", "zz", "ab01000;ab01101");
        s.due("the last night", x.carry(0, 1, NONE), 2);
        s.due("a night that there is not", x.carry(0, 2, NONE), BAD);
        s.due("no nights", typed("0o", "", "ab01000").carry(0, 0, NONE), BAD);

        s.says(TERMS, "by which it OWES nothing behind that");
        s.due("a later debt is not owed yet", x.carry(0, 0, NONE), 1);
        s.due("in place 0", x.carry(0, 0, 0), 0);
        s.due("frost has come", typed("0o", "za", "ab01000").carry(0, 1, NONE), 0);
        s.due("frost comes later", typed("0o", "za", "ab01000").carry(0, 0, NONE), 1);

        s.says(TERMS, "each in a PLACE: of like ones the least row of PLACES (each more than the one ahead): how many; the i-th; NONE");
        FrostDebts row = typed(eight, "z", "ab01700;ab01300;ab01000;ab01300;ab01700");
        int[] places = {0, 3, 7};
        s.due("three", row.carry(0, 0, NONE), 3);
        for (int i = 0; i < 3; i++) s.due("the " + i, row.carry(0, 0, i), places[i]);
        FrostDebts four = typed(eight, "z", "ab01000;ab01100;ab01200;ab01300");
        for (int i = 0; i < 3; i++) s.due("four, the " + i, four.carry(0, 0, i), NONE);
    }

    private static void carry(Sentences s) {
        s.says(26, "CARRY: how many (i = NONE), the i-th (0 to 2; NONE); NONE.");
        FrostDebts x = typed("0o;0o;0o", warmThenCold(40, 0), "fa01200;fa01139;fa01000");
        s.due("behind 0", x.carry(5, 0, NONE), 2);
        int[] first = {0, 2, NONE};
        for (int i = 0; i < 3; i++) s.due("behind 0, the " + i, x.carry(5, 0, i), first[i]);
        s.due("behind 39", x.carry(5, 39, NONE), 3);
        for (int i = 0; i < 3; i++) s.due("behind 39, the " + i, x.carry(5, 39, i), i);
        s.due("who owes nothing", x.carry(0, 0, NONE), 0);
        s.due("so there is no first", x.carry(0, 0, 0), NONE);

        s.says(26, "BAD.");
        for (int p : new int[] {LEAST, -1, 6, MOST}) s.due("person " + p, x.carry(p, 0, NONE), BAD);
        for (int n : new int[] {LEAST, -1, 40, MOST}) s.due("night " + n, x.carry(5, n, NONE), BAD);
        for (int i : new int[] {LEAST, -2, 3, MOST}) s.due("i " + i, x.carry(5, 0, i), BAD);
    }
}
