import java.math.BigInteger;
import java.util.ArrayList;
import java.util.List;

/** Promise 42: the digest, folded once more from what the other calls answer. */
final class DigestEdges extends Edges {
    static void look(Sentences s) {
        digest(s);
        whatIsLeftOut(s);
    }

    /** Folded by whole numbers without a bound, and cut to 64 bits at the end. */
    private static long folded(List<Long> all) {
        BigInteger h = BigInteger.valueOf(17);
        for (long v : all) h = h.multiply(BigInteger.valueOf(31)).add(BigInteger.valueOf(v));
        return h.longValue();
    }

    private static void add(List<Long> all, long... more) {
        for (long v : more) all.add(v);
    }

    private static long foldedAnswers(FrostDebts x) {
        List<Long> all = new ArrayList<>();
        for (int what = 0; what <= 7; what++) add(all, x.count(what));
        for (int text = 0; text <= 2; text++) add(all, x.fault(text));
        for (int p = 0; p < x.count(0); p++) {
            add(all, x.place(p, 0), x.place(p, 1), x.warmth(3, p), x.freezes(3, p), x.first(p));
            add(all, x.keep(p, 9, NONE), x.keep(p, 9, 0), x.chance(5, p, 9, 0), x.chance(5, p, 9, 1), x.year(7, p));
        }
        for (int d = 0; d < x.count(2); d++) {
            add(all, x.debt(d, 0), x.debt(d, 1), x.debt(d, 2), x.debt(d, 3), x.debt(d, 4), x.lasts(d, 0), x.lasts(d, 1));
            add(all, x.where(d, 0, 0), x.where(d, 0, 1), x.where(d, 1, 0), x.where(d, 1, 1));
        }
        for (int p = 0; p <= 5; p++) {
            add(all, x.owes(p, 5, 0), x.owes(p, 5, 1), x.free(p, 0), x.carry(p, 5, NONE), x.carry(p, 5, 0));
        }
        for (int n : new int[] {0, 5, 20, 39}) add(all, x.had(n), x.hangs(n), x.was(n), x.ask(n));
        add(all, x.never(), x.carried(), x.year(7, NONE));
        return folded(all);
    }

    /** Empty, short, full; with marks and what was seen. */
    private static FrostDebts[] states() {
        String fullDebts = "ab01000;bc02101;cd03202;de04303;ef05404;fa06505;aa07606;bb98738;ff99739";
        FrostDebts marked = village();
        marked.cloud(2);
        marked.smoke(4, 1);
        marked.ice(3, 4);
        marked.ice(30, 0);
        marked.seen(4, 0, 0);
        marked.seen(9, 4, 1);
        marked.zero(7);
        FrostDebts iced = village();
        iced.ice(9, 0);
        FrostDebts faulty = village();
        faulty.type(0, 'x');
        return new FrostDebts[] {new FrostDebts(), typed("0o", "", ""), typed("9h", "aaa", "ab01000"), typed("9h", "aaaa", "ab01000"),
            typed("0o;9h;0s", "zzzzz", fullDebts), typed("0o;9h;0s", "zzzzza", fullDebts), village(), marked, iced, faulty,
            typed("0o;1h;2w;3s;4o;5h;6w;9s", "zyxwvutsrqponmlkjihgfedcbaabcdefghijklmn", fullDebts)};
    }

    private static void digest(Sentences s) {
        s.says(42, "h is 17; h becomes 31 h and each of: count() 0 to 7; of texts fault(); of PLACES place() 0, 1, warmth(3, it),"
            + " freezes(3, it) (as these are told), first(), keep(it, 9, NONE and 0), chance(5, it, 9), above, below, year(7, it);"
            + " of DEBTS debt() 0 to 4, lasts() 0, 1, where(it, 0 and 1, 0 and 1); of PERSONS 0 to 5 owes(it, 5, 0 and 1), free(it, 0),"
            + " carry(it, 5, NONE and 0) (as it is told); of NIGHTS 0, 5, 20, 39 had(), hangs(), was(), ask() (as these are told);"
            + " never(), carried(), year(7, NONE); as longs that wrap.");
        FrostDebts[] states = states();
        for (int i = 0; i < states.length; i++) s.due("state " + i, states[i].digest(), foldedAnswers(states[i]));
        for (int n = 0; n < 40; n++) {
            FrostDebts one = typed("0o;0o;9s", times("z", n, "") + "a" + times("z", 39 - n, ""), "ab01000;cb02138;da04239");
            s.due("cold in " + n + " alone", one.digest(), foldedAnswers(one));
        }
        List<Long> empty = new ArrayList<>();
        add(empty, 0, 0, 0, 0, 0, 0, 0, 0, NONE, NONE, NONE);
        for (int p = 0; p < 6; p++) add(empty, 0, 0, 0, BAD, BAD);
        for (int n = 0; n < 4; n++) add(empty, 0, 0, BAD, BAD);
        add(empty, 0, 0, 0);
        s.due("a new object", new FrostDebts().digest(), folded(empty));
        FrostDebts three = typed("9h", "aaa", "");
        three.sheet(0, 0, 0);
        s.due("no night 3: warmth as it is told", three.warmth(3, 0), -1002);
        s.due("no night 3: freezes as it is told", three.freezes(3, 0), BAD);
    }

    private static void whatIsLeftOut(Sentences s) {
        s.says(42, "count() 0 to 7");
        FrostDebts x = village();
        long digest = x.digest();
        x.lose(0);
        s.due("findings are left out", x.digest(), digest);
        fill(x, 0, 2, 1, 2, 3);
        s.due("so are sheets", x.digest(), digest);
        s.due("asking changes nothing", x.digest(), digest);
        x.cloud(39);
        s.due("a cloud that does nothing is counted", x.digest() == digest ? 1 : 0, 0);
        x.back(0);
        s.due("and undone", x.digest(), digest);
        x.seen(39, 7, 0);
        s.due("what was seen is counted", x.digest() == digest ? 1 : 0, 0);
        x.forget();
        s.due("and forgotten", x.digest(), digest);
    }
}
