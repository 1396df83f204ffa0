/** What was seen, and what it tells: their terms, and promises 27 to 32. */
final class SeenEdges extends Edges {
    private static final int ALL = (1 << 26) - 1;

    static void look(Sentences s) {
        seenTerms(s);
        seen(s);
        forget(s);
        read(s);
        readWhole(s);
        was(s);
        carried(s);
        ask(s);
    }

    /** The bits of how warm it may have been, from least to most. */
    private static int from(int least, int most) {
        return (2 << most) - (1 << least);
    }

    private static void seenTerms(Sentences s) {
        s.says(TERMS, "SEEN, 8 at most");
        FrostDebts x = typed("0o", "z", "");
        for (int i = 1; i <= 8; i++) s.due("seen " + i, x.seen(0, 0, 0), i);
        s.due("one too many", x.seen(0, 0, 1), FULL);
        s.due("it was not taken", x.was(0), from(6, 25));
        FrostDebts last = typed("0o", "z", "");
        for (int i = 1; i <= 7; i++) last.seen(39, 7, 0);
        last.seen(0, 0, 1);
        s.due("the eighth is", last.was(0), from(0, 5));

        s.says(TERMS, "behind a NIGHT (0 to 39) a PLACE (0 to 7) had had FIRST (1), or not (0");
        FrostDebts behind = typed(times("0o", 7, ";") + ";1o", "zz", "");
        behind.seen(0, 7, 1);
        s.due("place 7 behind 0: by night 0", behind.was(0), from(0, 6));
        s.due("not by night 1", behind.was(1), 0);
        behind.forget();
        behind.seen(0, 7, 0);
        s.due("not behind 0: night 0", behind.was(0), from(7, 25));
        s.due("not behind 0: night 1 is free", behind.was(1), ALL);
        behind.forget();
        behind.seen(39, 0, 1);
        s.due("behind 39: by night 0", behind.was(0), from(0, 5));
        s.due("behind 39: or by night 1", behind.was(1), from(0, 5));
        FrostDebts last39 = typed("0o", warmThenCold(39, 1), "");
        last39.seen(38, 0, 0);
        last39.seen(39, 0, 1);
        s.due("had had it behind its own night", last39.was(39), from(0, 5));

        s.says(TERMS, "so has a PLACE that there is not");
        FrostDebts none = typed("0o", "a", "");
        none.seen(39, 1, 0);
        s.due("not had, as was seen", none.was(0), ALL);
        none.seen(39, 7, 1);
        s.due("had, which cannot be", none.was(0), 0);
        none.forget();
        none.ice(0, 7);
        none.seen(39, 7, 1);
        s.due("ice there is nothing", none.was(0), 0);
        none.forget();
        none.seen(0, 1, 1);
        typeAll(none, 0, ";0o");
        s.due("it is there now", none.was(0), from(0, 5));
    }

    private static void seen(Sentences s) {
        s.says(27, "SEEN more: how many.");
        FrostDebts x = village();
        s.due("the least", x.seen(0, 0, 0), 1);
        s.due("the most", x.seen(39, 7, 1), 2);
        s.due("again the same", x.seen(39, 7, 1), 3);
        s.due("what cannot be with it", x.seen(39, 7, 0), 4);
        s.due("four", x.count(7), 4);

        s.says(27, "BAD;");
        for (int n : new int[] {LEAST, -1, 40, MOST}) s.due("night " + n, x.seen(n, 0, 0), BAD);
        for (int p : new int[] {LEAST, -1, 8, MOST}) s.due("place " + p, x.seen(0, p, 0), BAD);
        for (int is : new int[] {LEAST, -1, 2, MOST}) s.due("is " + is, x.seen(0, 0, is), BAD);
        s.due("still four", x.count(7), 4);

        s.says(27, "FULL.");
        for (int i = 5; i <= 8; i++) s.due("more", x.seen(0, 0, 0), i);
        s.due("full", x.seen(0, 0, 0), FULL);
        s.due("bad ahead of it: night", x.seen(40, 0, 0), BAD);
        s.due("bad ahead of it: place", x.seen(0, 8, 0), BAD);
        s.due("bad ahead of it: is", x.seen(0, 0, 2), BAD);
        s.due("eight", x.count(7), 8);
    }

    private static void forget(Sentences s) {
        s.says(28, "All SEEN are forgotten: how many.");
        FrostDebts x = typed("0o", "z", "");
        s.due("none", x.forget(), 0);
        for (int i = 0; i < 8; i++) x.seen(0, 0, 1);
        s.due("eight", x.forget(), 8);
        s.due("again", x.forget(), 0);
        s.due("none is left", x.count(7), 0);
        s.due("none is known", x.was(0), ALL);
        s.due("room again", x.seen(0, 0, 0), 1);
        x.cloud(0);
        s.due("one", x.forget(), 1);
        s.due("clouds stay", x.count(6), 1);
    }

    private static void read(Sentences s) {
        s.says(29, "SEEN from a SHEET: its items, three for each");
        for (int form = 0; form < 3; form++) {
            FrostDebts x = typed("0o;1o", "zz", "");
            fill(x, form + 1, form, 1, 0, 0, 0, 1, 1);
            s.due("two of form " + form, x.read(form + 1), 2);
            s.due("seen", x.count(7), 2);
            s.due("night, place, whether", x.was(0), from(6, 6));
            s.due("the sheet is as it was", x.get(form + 1, form, 0), 1);
            s.due("and once more", x.read(form + 1), 2);
            s.due("they come to those that there are", x.count(7), 4);
        }

        s.says(29, "as many as are whole");
        for (int n = 0; n <= 10; n++) {
            FrostDebts x = new FrostDebts();
            x.sheet(0, 0, n);
            s.due(n + " items", x.read(0), n / 3);
            s.due(n + " items, seen", x.count(7), n / 3);
        }

        s.says(29, "BAD;");
        FrostDebts y = new FrostDebts();
        for (int sheet : new int[] {LEAST, -1, 4, MOST}) s.due("sheet " + sheet, y.read(sheet), BAD);
        s.due("no finding", y.count(8), 0);

        s.says(29, "NULL.");
        for (int sheet = 0; sheet < 4; sheet++) {
            FrostDebts lost = new FrostDebts();
            s.due("lost " + sheet, lost.read(sheet), NULL);
            s.due("finding", lost.count(8), 1);
            s.due("nothing is seen", lost.count(7), 0);
        }
        FrostDebts full = new FrostDebts();
        for (int i = 0; i < 8; i++) full.seen(0, 0, 0);
        s.due("lost and full", full.read(0), NULL);
    }

    private static void readWhole(Sentences s) {
        s.says(29, "as long as each may be: how many.");
        int[][] wrong = {{-1, 0, 0}, {40, 0, 0}, {0, -1, 0}, {0, 8, 0}, {0, 0, -1}, {0, 0, 2}};
        for (int[] one : wrong) {
            FrostDebts x = new FrostDebts();
            fill(x, 0, 1, 39, 7, 1, one[0], one[1], one[2], 0, 0, 0);
            s.due("up to " + one[0] + ", " + one[1] + ", " + one[2], x.read(0), 1);
            s.due("none behind it", x.count(7), 1);
            fill(x, 0, 1, one);
            s.due("none at all", x.read(0), 0);
            s.due("as many seen", x.count(7), 1);
            s.due("no finding", x.count(8), 0);
        }
        FrostDebts bytes = new FrostDebts();
        fill(bytes, 0, 0, 256, 7, 1);
        s.due("a byte of 256 is 0", bytes.read(0), 1);
        FrostDebts full = new FrostDebts();
        full.sheet(0, 2, 48);
        s.due("sixteen, eight may be", full.read(0), 8);
        s.due("eight seen", full.count(7), 8);
        s.due("no more may be", full.read(0), 0);
        s.due("still eight", full.count(7), 8);
        full.forget();
        for (int i = 0; i < 7; i++) full.seen(0, 0, 0);
        s.due("one may be", full.read(0), 1);
    }

    private static void was(Sentences s) {
        s.says(TERMS, "WAS of a NIGHT that there is: how WARM (0 to 25) it may have been, in place of what is told");
        FrostDebts x = typed("0o;9h", "az", "");
        s.due("nothing seen", x.was(0), ALL);
        s.due("nothing seen, the last night", x.was(1), ALL);
        x.seen(0, 0, 0);
        s.due("told is 0, it was 6 or more", x.was(0), from(6, 25));
        x.forget();
        x.seen(0, 1, 0);
        s.due("18 or more", x.was(0), from(18, 25));
        FrostDebts warm = typed("0o", "z", "");
        warm.zero(25);
        warm.seen(0, 0, 0);
        s.due("25 alone", warm.was(0), from(25, 25));
        warm.forget();
        warm.zero(1);
        warm.seen(0, 0, 1);
        s.due("0 alone", warm.was(0), 1);
        warm.zero(0);
        s.due("none", warm.was(0), 0);
        s.due("the night is as told", warm.warm(0), 25);

        s.says(TERMS, "so that all that was SEEN comes out so, as bits");
        FrostDebts all = typed("0o;4o;4o", "zza", "");
        all.seen(1, 0, 0);
        all.seen(1, 1, 1);
        s.due("both", all.was(1), from(6, 9));
        s.due("in night 0, both, too", all.was(0), from(6, 9));
        s.due("in night 2 neither", all.was(2), 0);
        all.seen(1, 2, 0);
        s.due("what cannot be together", all.was(1), 0);

        s.says(30, "WAS, as bits.");
        s.due("all", typed("0o", "m", "").was(0), ALL);
        s.due("all, without places", typed("", "m", "").was(0), ALL);
        FrostDebts kept = typed("0o", "m", "");
        kept.seen(0, 0, 1);
        kept.cloud(0);
        s.due("clouds as told", kept.was(0), 0);
        kept.ice(0, 0);
        s.due("ice as told", kept.was(0), ALL);
        kept.back(0);
        kept.back(2);
        kept.smoke(0, 0);
        s.due("smoke as told", kept.was(0), 0);
        FrostDebts sea = typed("9s", warmThenCold(21, 0), "");
        sea.seen(39, 0, 1);
        s.due("by the sea in 19", sea.was(19), 0);
        s.due("by the sea in 20", sea.was(20), from(0, 10));

        s.says(30, "BAD: no such NIGHT.");
        FrostDebts y = typed("0o", "mm", "");
        for (int n : new int[] {LEAST, -1, 2, 39, MOST}) s.due("night " + n, y.was(n), BAD);
        s.due("the last", typed("", times("m", 40, ""), "").was(39), ALL);
        s.due("40", typed("", times("m", 40, ""), "").was(40), BAD);
    }

    private static void carried(Sentences s) {
        s.says(TERMS, "CARRIED: ICE each of which, had it alone not been, likewise, as bits");
        FrostDebts x = typed("0o;0o", "zzzz", "");
        x.ice(1, 0);
        x.ice(3, 0);
        x.ice(2, 1);
        s.due("nothing seen", x.carried(), 7);
        x.seen(2, 0, 1);
        s.due("without the first it would not be so", x.carried(), 6);
        x.seen(39, 1, 1);
        s.due("nor without the third", x.carried(), 2);
        x.forget();
        x.seen(2, 0, 0);
        s.due("the first alone was not", x.carried(), 1);
        x.seen(39, 1, 0);
        s.due("two were not: neither alone", x.carried(), 0);
        x.forget();
        x.seen(39, 0, 1);
        s.due("either of two is enough", x.carried(), 7);
        FrostDebts twice = typed("0o", "z", "");
        twice.ice(0, 0);
        twice.ice(0, 0);
        twice.seen(0, 0, 0);
        s.due("two alike: neither alone", twice.carried(), 0);
        FrostDebts frost = typed("0o", "a", "");
        frost.ice(0, 0);
        frost.seen(0, 0, 1);
        s.due("it froze without it", frost.carried(), 1);
        frost.cloud(0);
        s.due("under a cloud it did not", frost.carried(), 0);

        s.says(31, "CARRIED, as bits.");
        s.due("no ice", village().carried(), 0);
        FrostDebts eight = typed("0o", "z", "");
        for (int i = 0; i < 8; i++) eight.ice(39, i);
        s.due("eight, of what there is not", eight.carried(), 255);
        eight.back(2);
        eight.ice(0, 0);
        eight.seen(0, 0, 0);
        s.due("the eighth was not", eight.carried(), 128);
    }

    private static void ask(Sentences s) {
        s.says(TERMS, "ASK of a NIGHT that there is: the PLACE of which, of all these WARM ones, the greater number"
            + " (by which it has had FIRST by that NIGHT, by which not) is least");
        FrostDebts x = typed("0o;5o;9o", "zz", "");
        s.due("6, 11 and 15 of 26 are cold", x.ask(0), 1);
        s.due("more are cold", typed("5o;8o", "z", "").ask(0), 1);
        s.due("the last of eight", typed(times("0o", 7, ";") + ";7o", "z", "").ask(0), 7);
        x.seen(0, 1, 1);
        s.due("of 11 warm ones, 6 and 5", x.ask(0), 0);
        x.forget();
        x.seen(0, 0, 0);
        s.due("of 20 warm ones, 9 and 11", x.ask(0), 2);
        FrostDebts had = typed("5o;0o", "gz", "");
        s.due("place 0 has had it ahead of that night", had.ask(1), 1);
        FrostDebts later = typed("0o;5o", "za", "");
        s.due("a frost behind that night does not count", later.ask(0), 1);
        FrostDebts iced = typed("7o;0o", "zz", "");
        iced.ice(1, 0);
        s.due("ice by that night", iced.ask(1), 1);
        s.due("not ahead of it", iced.ask(0), 0);

        s.says(TERMS, "is least, of like ones the least; NONE: there are no PLACES.");
        s.due("two alike", typed("0o;5o;5o", "z", "").ask(0), 1);
        s.due("all alike", typed("9s;9s", "z", "").ask(0), 0);
        s.due("13 and 13 in both", typed("9w;7o", "z", "").ask(0), 0);
        FrostDebts none = typed("0o;7o", "z", "");
        none.seen(0, 7, 1);
        s.due("no warm ones", none.ask(0), 0);
        s.due("no places", typed("", "z", "").ask(0), NONE);

        s.says(32, "ASK; NONE.");
        s.due("a place", typed("0o;7o", "z", "").ask(0), 1);
        s.due("none", typed("0", "z", "").ask(0), NONE);

        s.says(32, "BAD: no such NIGHT.");
        FrostDebts y = typed("0o", "mm", "");
        for (int n : new int[] {LEAST, -1, 2, 39, MOST}) s.due("night " + n, y.ask(n), BAD);
        s.due("the last", y.ask(1), 0);
        s.due("without places, too", typed("", "m", "").ask(1), BAD);
    }
}
