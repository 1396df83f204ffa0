/** Which debts stand when, and who owes: their terms, and promises 18 to 23. */
final class DebtEdges extends Edges {
    static void look(Sentences s) {
        standsTerms(s);
        nothingTerms(s);
        stands(s);
        lasts(s);
        never(s);
        owes(s);
        hangs(s);
        free(s);
    }

    /** One open place with its first frost in a night (40: in none), and one debt there from a night on. */
    private static FrostDebts oneDebt(int frost, int from) {
        return typed("0o", warmThenCold(frost, 40 - frost), "ab010" + from / 10 + from % 10);
    }

    private static void standsTerms(Sentences s) {
        s.says(TERMS, "STANDS behind a NIGHT (0 to 39), if that is no less than its own");
        for (int from : new int[] {0, 1, 20, 38, 39}) {
            FrostDebts x = oneDebt(40, from);
            for (int n = 0; n < 40; n++) s.due("from " + from + " behind " + n, x.stands(0, n), n < from ? 0 : 1);
        }
        s.due("behind 40", oneDebt(40, 0).stands(0, 40), BAD);
        s.due("behind -1", oneDebt(40, 0).stands(0, -1), BAD);

        s.says(TERMS, "and FIRST is later than that");
        for (int frost : new int[] {0, 1, 20, 38, 39}) {
            FrostDebts x = oneDebt(frost, 0);
            for (int n = 0; n < 40; n++) s.due("frost in " + frost + ", behind " + n, x.stands(0, n), n < frost ? 1 : 0);
        }

        s.says(TERMS, "or there is none");
        s.due("no frost", oneDebt(40, 0).stands(0, 39), 1);
        s.due("few nights, all warm", typed("0o", "zz", "ab01000").stands(0, 39), 1);
        s.due("no nights", typed("0o", "", "ab01000").stands(0, 0), 1);

        s.says(TERMS, "whether it STANDS behind a NIGHT; whether it is NOTHING");
        FrostDebts x = oneDebt(5, 3);
        int[] want = {0, 1, 1, 0};
        for (int n = 2; n < 6; n++) s.due("behind " + n, x.stands(0, n), want[n - 2]);
        s.due("it is something", x.lasts(0, 1), 0);
    }

    private static void nothingTerms(Sentences s) {
        s.says(TERMS, "if FIRST is ahead of its own NIGHT it is NOTHING");
        for (int from : new int[] {1, 2, 20, 39}) {
            FrostDebts late = oneDebt(from - 1, from);
            s.due("frost just ahead of " + from, late.lasts(0, 1), 1);
            s.due("it stands for none", late.lasts(0, 0), 0);
            s.due("nor in its own night", late.stands(0, from), 0);
            s.due("frost in " + from + " itself", oneDebt(from, from).lasts(0, 1), 0);
            s.due("then it stands for none, too", oneDebt(from, from).lasts(0, 0), 0);
        }
        s.due("from 0 on it is never late", oneDebt(0, 0).lasts(0, 1), 0);
        s.due("no frost", oneDebt(40, 39).lasts(0, 1), 0);

        s.says(TERMS, "In a PLACE that there is not it is NOTHING, too.");
        for (int place = 0; place < 8; place++) {
            FrostDebts x = typed(times("0o", place, ";"), "z", "ab01" + place + "00");
            s.due("place " + place + " is not there", x.lasts(0, 1), 1);
            s.due("it stands for none", x.lasts(0, 0), 0);
            s.due("nor at the end", x.stands(0, 39), 0);
            s.due("nothing is owed", x.owes(0, 39, 0) + x.never(), 0);
            typeAll(x, 0, place == 0 ? "0o" : ";0o");
            s.due("now it is", x.lasts(0, 1), 0);
            s.due("it stands for all", x.lasts(0, 0), 40);
        }
    }

    private static void stands(Sentences s) {
        s.says(18, "Whether a DEBT STANDS behind a NIGHT (0 to 39): 1, 0.");
        FrostDebts x = typed("0o;0s", "zzzaa", "ab01000;cd02103;ef03204");
        int[][] asked = {{0, 0, 1}, {0, 2, 1}, {0, 3, 0}, {0, 39, 0}, {1, 2, 0}, {1, 3, 1}, {1, 39, 1}, {2, 4, 0}, {2, 39, 0}};
        for (int[] one : asked) s.due(one[0] + " behind " + one[1], x.stands(one[0], one[1]), one[2]);

        s.says(18, "BAD.");
        for (int d : new int[] {LEAST, -1, 3, 8, MOST}) s.due("debt " + d, x.stands(d, 0), BAD);
        for (int n : new int[] {LEAST, -1, 40, MOST}) s.due("night " + n, x.stands(0, n), BAD);
        s.due("without debts", new FrostDebts().stands(0, 0), BAD);
    }

    private static void lasts(Sentences s) {
        s.says(TERMS, "for how many NIGHTS it STANDS (to 39)");
        s.due("all", oneDebt(40, 0).lasts(0, 0), 40);
        s.due("all, though there are two nights", typed("0o", "zz", "ab01000").lasts(0, 0), 40);
        s.due("the last", oneDebt(40, 39).lasts(0, 0), 1);
        s.due("the last two", oneDebt(40, 38).lasts(0, 0), 2);
        s.due("all but the last", oneDebt(39, 0).lasts(0, 0), 39);
        s.due("the first", oneDebt(1, 0).lasts(0, 0), 1);
        s.due("none", oneDebt(0, 0).lasts(0, 0), 0);

        s.says(19, "For how many NIGHTS it STANDS (what = 0), whether it is NOTHING (1: 1, 0).");
        for (int frost = 0; frost <= 40; frost += 5) {
            for (int from = 0; from < 40; from += 3) {
                FrostDebts x = oneDebt(frost, from);
                s.due("nights " + frost + ", " + from, x.lasts(0, 0), frost > from ? frost - from : 0);
                s.due("nothing " + frost + ", " + from, x.lasts(0, 1), frost < from ? 1 : 0);
            }
        }

        s.says(19, "BAD.");
        FrostDebts y = oneDebt(5, 0);
        for (int d : new int[] {LEAST, -1, 1, 8, MOST}) s.due("debt " + d, y.lasts(d, 0), BAD);
        for (int what : new int[] {LEAST, -1, 2, MOST}) s.due("what " + what, y.lasts(0, what), BAD);
    }

    private static void never(Sentences s) {
        s.says(TERMS, "NEVER: DEBTS that STAND behind NIGHT 39, as bits");
        FrostDebts x = typed("0o;0s", warmThenCold(39, 0) + "a", "ab01000;ab01100");
        s.due("frost in 39", x.never(), 0);
        x.undo(1);
        s.due("no frost up to 38", x.never(), 3);
        x.type(1, 'z');
        s.due("no frost in 39", x.never(), 3);
        s.due("from 39 on", typed("0o", "", "ab01039").never(), 1);

        s.says(20, "NEVER, as bits.");
        s.due("all nine", typed("0o", "z", times("ab01000", 9, ";")).never(), 511);
        s.due("the last of nine", typed("0o", "z", times("ab01700", 8, ";") + ";ab01000").never(), 256);
        s.due("the first of nine", typed("0o", "z", "ab01000;" + times("ab01700", 8, ";")).never(), 1);
        s.due("no debts", new FrostDebts().never(), 0);
    }

    private static void owes(Sentences s) {
        s.says(TERMS, "OWES of a PERSON: all DEBTS of it that STAND behind a NIGHT, together; IS OWED: likewise");
        FrostDebts nine = typed("0o", "z", times("af99000", 9, ";"));
        s.due("nine of 99", nine.owes(0, 0, 0), 891);
        s.due("nine of 99 are owed", nine.owes(5, 39, 1), 891);
        s.due("who lent owes none", nine.owes(5, 0, 0), 0);
        s.due("who owes is owed none", nine.owes(0, 0, 1), 0);
        FrostDebts some = typed("0o;9o", "zzm", "ab01000;ac02002;ad04100;ae08700;ba16000");
        int[] sums = {5, 5, 3};
        for (int n = 0; n < 3; n++) s.due("those that stand behind " + n, some.owes(0, n, 0), sums[n]);
        s.due("owed of a", some.owes(0, 39, 1), 16);
        s.due("owed of d, ended", some.owes(3, 2, 1), 0);
        s.due("owed of e, in no place", some.owes(4, 0, 1), 0);
        s.due("to oneself, owes", typed("0o", "", "cc07000").owes(2, 0, 0), 7);
        s.due("to oneself, is owed", typed("0o", "", "cc07000").owes(2, 0, 1), 7);

        s.says(21, "OWES (what = 0), IS OWED (1), behind a NIGHT (0 to 39).");
        FrostDebts edge = typed("0o;0o", warmThenCold(39, 1), "fa01000;fa02039;af04000");
        s.due("f owes behind 0", edge.owes(5, 0, 0), 1);
        s.due("f is owed behind 0", edge.owes(5, 0, 1), 4);
        s.due("f owes behind 38", edge.owes(5, 38, 0), 1);
        s.due("f owes behind 39", edge.owes(5, 39, 0), 0);
        edge.undo(1);
        s.due("no frost: f owes behind 39", edge.owes(5, 39, 0), 3);
        s.due("a is owed behind 39", edge.owes(0, 39, 1), 3);

        s.says(21, "BAD.");
        for (int p : new int[] {LEAST, -1, 6, MOST}) s.due("person " + p, edge.owes(p, 0, 0), BAD);
        for (int n : new int[] {LEAST, -1, 40, MOST}) s.due("night " + n, edge.owes(0, n, 0), BAD);
        for (int what : new int[] {LEAST, -1, 2, MOST}) s.due("what " + what, edge.owes(0, 0, what), BAD);
    }

    private static void hangs(Sentences s) {
        s.says(TERMS, "HANGS: PERSONS who OWE more than they ARE OWED, as bits");
        s.due("one more", typed("0o", "", "ab08000;ba07000").hangs(0), 1);
        s.due("as much", typed("0o", "", "ab07000;ba07000").hangs(0), 0);
        s.due("one less", typed("0o", "", "ab06000;ba07000").hangs(0), 2);
        s.due("to oneself", typed("0o", "", "aa99000").hangs(0), 0);
        s.due("all but a", typed("0o", "", "ba01000;ca01000;da01000;ea01000;fa01000").hangs(0), 62);
        s.due("all but f", typed("0o", "", "af01000;bf01000;cf01000;df01000;ef01000").hangs(0), 31);
        s.due("together", typed("0o", "", "ab03000;ac03000;da05000").hangs(0), 9);

        s.says(22, "HANGS, as bits.");
        FrostDebts x = typed("0o;0o", warmThenCold(39, 1), "ab01000;ba02039");
        s.due("behind 0", x.hangs(0), 1);
        s.due("behind 38", x.hangs(38), 1);
        s.due("behind 39, ended by frost", x.hangs(39), 0);
        x.undo(1);
        s.due("behind 39, the other way", x.hangs(39), 2);

        s.says(22, "BAD.");
        for (int n : new int[] {LEAST, -1, 40, MOST}) s.due("night " + n, x.hangs(n), BAD);
    }

    private static void free(Sentences s) {
        s.says(TERMS, "FREE of a PERSON: the first NIGHT from one on, behind which it OWES nothing, and behind none later; NONE");
        FrostDebts x = typed("0o;1o", "zzzgf" + warmThenCold(10, 0), "ab01000;ab02102;cb03039;db04105");
        s.due("a, when both have ended", x.free(0, 0), 4);
        s.due("c's is nothing", x.free(2, 0), 0);
        s.due("d's is nothing", x.free(3, 0), 0);
        FrostDebts gap = typed("0o;0o", warmThenCold(20, 1), "ab01000;ab01119");
        gap.ice(5, 0);
        s.due("free in between is not free", gap.free(0, 0), 20);
        s.due("nor asked from there on", gap.free(0, 6), 20);
        s.due("from the night before", gap.free(0, 19), 20);
        s.due("from that night on", gap.free(0, 20), 20);
        s.due("from a later one on", gap.free(0, 21), 21);
        s.due("the last debt begins at 39", typed("0o", "", "ab01039").free(0, 0), NONE);
        s.due("asked from 39 on", typed("0o", "", "ab01039").free(0, 39), NONE);
        s.due("who lent is free", typed("0o", "", "ab01039").free(1, 0), 0);

        s.says(23, "FREE; NONE.");
        s.due("frost in 39", oneDebt(39, 0).free(0, 0), 39);
        s.due("frost in 0", oneDebt(0, 0).free(0, 0), 0);
        s.due("no frost", oneDebt(40, 0).free(0, 0), NONE);
        FrostDebts undone = typed("0o", "z", "ab01000;cb01000");
        for (int i = 0; i < 8; i++) undone.undo(2);
        s.due("whose debt is undone", undone.free(2, 0), 0);
        s.due("whose is left", undone.free(0, 0), NONE);
        undone.wipe(2);
        s.due("then none", undone.free(0, 0), 0);
        s.due("owing nothing, from 0 on", new FrostDebts().free(5, 0), 0);
        s.due("owing nothing, from 39 on", new FrostDebts().free(5, 39), 39);

        s.says(23, "BAD.");
        for (int p : new int[] {LEAST, -1, 6, MOST}) s.due("person " + p, x.free(p, 0), BAD);
        for (int n : new int[] {LEAST, -1, 40, MOST}) s.due("night " + n, x.free(0, n), BAD);
    }
}
