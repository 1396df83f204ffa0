import java.math.BigInteger;

/** Frost under clouds by chance and by a seed: their terms, and promises 33 and 34. */
final class ChanceEdges extends Edges {
    private static final int[] SEEDS = {0, 1, 2, 7, 14, 120, 104227, -1, 65535, 65536, MOST, LEAST, LEAST + 1};

    static void look(Sentences s) {
        fractions(s);
        chanceTerms(s);
        chance(s);
        lots(s);
        yearTerms(s);
        year(s);
    }

    private static void both(Sentences s, String what, FrostDebts x, int c, int night, long above, long below) {
        s.due(what + ", above", x.chance(c, 0, night, 0), above);
        s.due(what + ", below", x.chance(c, 0, night, 1), below);
    }

    private static void fractions(Sentences s) {
        s.says(TERMS, "FRACTIONS are told in lowest terms, above and below (0 by 1)");
        for (int cold = 0; cold <= 12; cold++) {
            FrostDebts x = typed("0o", warmThenCold(12 - cold, cold), "");
            for (int c = 0; c <= 16; c++) {
                BigInteger below = BigInteger.valueOf(16).pow(cold);
                BigInteger above = below.subtract(BigInteger.valueOf(c).pow(cold));
                BigInteger common = above.gcd(below);
                both(s, c + " over " + cold, x, c, 11, above.divide(common).longValueExact(), below.divide(common).longValueExact());
            }
        }
        both(s, "0 by 1, never clear", typed("0o", "a", ""), 16, 0, 0, 1);
        both(s, "0 by 1, never cold", typed("0o", "z", ""), 8, 0, 0, 1);
        both(s, "0 by 1, no nights", typed("0o", "", ""), 8, 0, 0, 1);
        both(s, "1 by 1", typed("0o", "a", ""), 0, 0, 1, 1);
        both(s, "4 by 16", typed("0o", "a", ""), 12, 0, 1, 4);
        both(s, "60 by 256", typed("0o", "aa", ""), 14, 1, 15, 64);
        both(s, "the greatest", typed("0o", warmThenCold(0, 12), ""), 1, 11, 281474976710655L, 281474976710656L);
    }

    private static void chanceTerms(Sentences s) {
        s.says(TERMS, "in each NIGHT it is CLOUDED by c sixteenths (0 to 16), by itself");
        FrostDebts x = typed("0o", "aaz", "");
        for (int c = 0; c <= 16; c++) {
            long above = x.chance(c, 0, 0, 0);
            long below = x.chance(c, 0, 0, 1);
            s.due("one night, clear by " + (16 - c), above * 16, (16 - c) * below);
        }
        both(s, "two nights, each by itself", x, 8, 1, 3, 4);
        both(s, "two nights by 12", x, 12, 1, 7, 16);
        both(s, "a warm one more", x, 8, 2, 3, 4);
        s.due("-1", x.chance(-1, 0, 0, 0), Long.MIN_VALUE + 2);
        s.due("17", x.chance(17, 0, 0, 0), Long.MIN_VALUE + 2);

        s.says(TERMS, "in place of CLOUDS as told: the chance that");
        x.cloud(0);
        x.cloud(1);
        both(s, "clouds do not matter", x, 8, 1, 3, 4);
        both(s, "nor when it is never clouded", x, 0, 0, 1, 1);
        x.smoke(0, 0);
        both(s, "smoke does", x, 8, 1, 1, 2);
        x.ice(1, 0);
        both(s, "so does ice", x, 16, 1, 1, 1);
        both(s, "ahead of the ice", x, 0, 0, 0, 1);

        s.says(TERMS, "the chance that FIRST of a PLACE is in one of the NIGHTS up to a told one (0 to 11): a FRACTION");
        FrostDebts last = typed("0o", warmThenCold(11, 2), "");
        both(s, "up to 0", last, 8, 0, 0, 1);
        both(s, "up to 10", last, 8, 10, 0, 1);
        both(s, "up to 11", last, 8, 11, 1, 2);
        s.due("12", last.chance(8, 0, 12, 0), Long.MIN_VALUE + 2);
        s.due("-1", last.chance(8, 0, -1, 0), Long.MIN_VALUE + 2);
        both(s, "a night that there is not", typed("0o", "aa", ""), 8, 11, 3, 4);
        both(s, "the sea is kept in all of them", typed("9s", warmThenCold(0, 40), ""), 0, 11, 0, 1);
        FrostDebts ice12 = typed("0o", warmThenCold(40, 0), "");
        ice12.ice(12, 0);
        both(s, "ice in 12", ice12, 0, 11, 0, 1);
        FrostDebts far = typed("0o", "zz", "");
        far.ice(2, 0);
        both(s, "ice in a night that there is not", far, 0, 11, 0, 1);
    }

    private static void chance(Sentences s) {
        s.says(33, "CHANCE: above, below.");
        FrostDebts x = typed("0o;9h", "ka", "");
        s.due("place 0, above", x.chance(4, 0, 1, 0), 3);
        s.due("place 0, below", x.chance(4, 0, 1, 1), 4);
        s.due("place 1, above", x.chance(4, 1, 1, 0), 15);
        s.due("place 1, below", x.chance(4, 1, 1, 1), 16);

        s.says(33, "BAD. (As the least long.)");
        long bad = Long.MIN_VALUE + 2;
        for (int c : new int[] {LEAST, -1, 17, MOST}) s.due("c " + c, x.chance(c, 0, 0, 0), bad);
        for (int p : new int[] {LEAST, -1, 2, 7, MOST}) s.due("place " + p, x.chance(0, p, 0, 0), bad);
        for (int n : new int[] {LEAST, -1, 12, 39, MOST}) s.due("night " + n, x.chance(0, 0, n, 0), bad);
        for (int what : new int[] {LEAST, -1, 2, MOST}) s.due("what " + what, x.chance(0, 0, 0, what), bad);
        x.ice(0, 0);
        s.due("with ice, too", x.chance(17, 0, 0, 0), bad);

        s.says(TERMS, "where the answer is a long, the least long and x more");
        s.due("BAD is 2 more", x.chance(-1, 0, 0, 0), -9223372036854775806L);
    }

    /** The lots of 4 by a seed, by whole numbers that are cut to 32 bits. */
    private static int[] lotsBy(int seed, int nights) {
        BigInteger range = BigInteger.ONE.shiftLeft(32);
        BigInteger state = BigInteger.valueOf(seed).mod(range);
        int[] lots = new int[nights];
        for (int n = 0; n < nights; n++) {
            state = state.multiply(BigInteger.valueOf(1103515245)).add(BigInteger.valueOf(12345)).mod(range);
            lots[n] = state.shiftRight(16).intValueExact() % 4;
        }
        return lots;
    }

    /** A single cold night tells whether that night was clouded. */
    private static void cloudedBy(Sentences s, int seed, int[] lots) {
        for (int n = 0; n < lots.length; n++) {
            FrostDebts x = typed("0o", times("z", n, "") + "a" + times("z", 39 - n, ""), "");
            s.due("by " + seed + " in " + n, x.year(seed, 0), lots[n] == 0 ? NONE : n);
        }
    }

    private static void lots(Sentences s) {
        s.says(TERMS, "LOTS of m: SEED becomes 1103515245 SEED and 12345, as ints that wrap");
        for (int seed : SEEDS) cloudedBy(s, seed, lotsBy(seed, 40));

        s.says(TERMS, "its upper 16 bits as a number from 0 on, modulo m");
        cloudedBy(s, 0, new int[] {0, 0, 0, 1, 2, 3, 1, 1, 2, 2, 1, 0});
        cloudedBy(s, 5, new int[] {3, 1, 0, 1, 1, 0, 0, 3, 0, 0, 1, 0});
        cloudedBy(s, -1, new int[] {1, 1, 2, 2, 1, 2, 0, 3, 0, 2, 1, 1});
        cloudedBy(s, MOST, new int[] {1, 1, 2, 2, 1, 2, 0, 3, 0, 2, 1, 1});
        cloudedBy(s, LEAST, new int[] {0, 0, 0, 1, 2, 3, 1, 1, 2, 2, 1, 0});
    }

    private static void yearTerms(Sentences s) {
        s.says(TERMS, "YEAR by a SEED: in each NIGHT that there is a LOT of 4: with 0 it is CLOUDED");
        FrostDebts nine = typed("0o", warmThenCold(0, 9), "");
        s.due("nine nights, all clouded", nine.year(104227, 0), NONE);
        nine.type(1, 'a');
        s.due("the tenth is not", nine.year(104227, 0), 9);
        s.due("no nights", typed("0o", "", "").year(1, 0), NONE);
        s.due("the seed is not kept", nine.year(104227, 0), 9);

        s.says(TERMS, "it is CLOUDED, in place of CLOUDS as told: FIRST of a PLACE; NONE");
        FrostDebts x = typed("0o;0s;0o", warmThenCold(0, 4), "");
        for (int n = 0; n < 4; n++) x.cloud(n);
        s.due("as told it does not freeze", x.first(0), NONE);
        s.due("by 1 no night is clouded", x.year(1, 0), 0);
        s.due("by 2 the first is", x.year(2, 0), 1);
        s.due("by 0 three are", x.year(0, 0), 3);
        s.due("by the sea", x.year(1, 1), NONE);
        x.smoke(0, 0);
        s.due("smoke as told", x.year(1, 0), 1);
        s.due("in its place alone", x.year(1, 2), 0);
        x.ice(1, 2);
        s.due("ice as told", x.year(0, 2), 1);
        s.due("as told nothing changed", x.first(0), NONE);

        s.says(TERMS, "how many DEBTS STAND behind NIGHT 39");
        FrostDebts nineDebts = typed("0o;9s", warmThenCold(0, 3), times("ab01000", 4, ";") + ";" + times("ab01139", 4, ";") + ";ab01700");
        s.due("by 0 all are clouded", nineDebts.year(0, NONE), 8);
        s.due("by 1 those in place 0 end", nineDebts.year(1, NONE), 4);
        FrostDebts late = typed("0o", warmThenCold(39, 1), "ab01000;ab01039");
        int lot39 = lotsBy(7, 40)[39];
        s.due("frost in 39", late.year(7, NONE), lot39 == 0 ? 2 : 0);
        s.due("without debts", typed("0o", "a", "").year(0, NONE), 0);
    }

    private static void year(Sentences s) {
        s.says(34, "YEAR: FIRST, how many DEBTS (place = NONE).");
        FrostDebts x = typed(times("0o", 8, ";"), "aa", "ab01000;ab01100");
        for (int p = 0; p < 8; p++) s.due("place " + p, x.year(2, p), 1);
        s.due("debts", x.year(2, NONE), 0);
        s.due("both stand", x.year(0, NONE), 2);
        s.due("no places, no debts", new FrostDebts().year(0, NONE), 0);
        s.due("the least seed", x.year(LEAST, 0), NONE);
        s.due("the greatest seed", x.year(MOST, 0), 0);

        s.says(34, "BAD.");
        for (int p : new int[] {LEAST, -2, 8, MOST}) s.due("place " + p, x.year(0, p), BAD);
        s.due("place 0 without places", new FrostDebts().year(0, 0), BAD);
        s.due("behind the last", typed("0o", "", "").year(0, 1), BAD);
    }
}
