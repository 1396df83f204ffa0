/** The three texts, what they tell, and promises 1 to 9. */
final class TextEdges extends Edges {
    private static final int[] ROOMS = {23, 40, 71};
    private static final String EIGHT_PLACES = "0o;1h;2w;3s;4o;5h;6w;9s";
    private static final String NINE_DEBTS =
        "ab01000;bc02101;cd03202;de04303;ef05404;fa06505;aa07606;bb98738;ff99739";
    private static final String[] FULL_TEXTS = {EIGHT_PLACES, times("m", 40, ""), NINE_DEBTS};

    static void look(Sentences s) {
        places(s);
        calls(s);
        nights(s);
        debts(s);
        figuresOfDebts(s);
        faults(s);
        faultyIsEmpty(s);
        newObject(s);
        type(s);
        wipe(s);
        undo(s);
        fault(s);
        placeWarmDebt(s);
        zero(s);
    }

    /** Each of the 256 bytes, between what is ahead of it and behind it: all but some are a fault just there. */
    private static void fitsOnly(Sentences s, int text, String ahead, String behind, String fitting) {
        for (int b = 0; b < 256; b++) {
            int want = fitting.indexOf(b) >= 0 ? NONE : ahead.length();
            s.due(ahead + " byte " + b + " " + behind, faultOf(text, ahead + (char) b + behind), want);
        }
    }

    private static void fillsUp(Sentences s, int text) {
        FrostDebts x = new FrostDebts();
        for (int i = 0; i < ROOMS[text]; i++) s.due("byte " + i, x.type(text, FULL_TEXTS[text].charAt(i)), i + 1);
        s.due("well when full", x.fault(text), NONE);
        s.due("one byte more", x.type(text, ';'), FULL);
        s.due("as many bytes", x.count(3 + text), ROOMS[text]);
        s.due("as well", x.fault(text), NONE);
    }

    private static void places(Sentences s) {
        s.says(TERMS, "PLACES are a text of up to 23 bytes (text 0)");
        fillsUp(s, 0);

        s.says(TERMS, "8 at most (0 on)");
        FrostDebts x = typed(EIGHT_PLACES, "", "");
        s.due("eight", x.count(0), 8);
        s.due("the first is 0", x.place(0, 1), 0);
        s.due("the last is 7", x.place(7, 0), 9);
        s.due("8", x.place(8, 0), BAD);
        s.due("-1", x.place(-1, 0), BAD);
        s.due("one", typed("4w", "", "").count(0), 1);
        s.due("none", typed("", "", "").count(0), 0);

        s.says(TERMS, "with ; between them: a figure");
        fitsOnly(s, 0, "4w", "5o", ";");
        s.due("ahead of all", faultOf(0, ";4w"), 0);
        s.due("behind all", faultOf(0, "4w;"), 3);
        s.due("two", faultOf(0, "4w;;5o"), 3);

        s.says(TERMS, "a figure, its HEIGHT (0 to 9)");
        fitsOnly(s, 0, "", "o", "0123456789");
        fitsOnly(s, 0, "4w;", "o", "0123456789");
        for (int h = 0; h <= 9; h++) s.due("height " + h, typed(h + "o", "", "").place(0, 0), h);

        s.says(TERMS, "a letter: o (open), h (a hollow), w (walled), s (by the sea)");
        fitsOnly(s, 0, "0", "", "ohws");
        fitsOnly(s, 0, "4w;9", "", "ohws");
        for (int k = 0; k < 4; k++) s.due("ohws at " + k, typed("0" + "ohws".charAt(k), "", "").place(0, 1), k);
    }

    /** 73 calls type the village; each pair of calls behind them changes nothing. */
    private static void calls(Sentences s) {
        s.says(TERMS, "An object is used for at most 512 calls after it has been made");
        FrostDebts x = village();
        int calls = 73;
        for (; calls + 2 < 512; calls += 2) {
            s.due("a cloud in call " + (calls + 1), x.cloud(calls % 40), 1);
            s.due("undone in call " + (calls + 2), x.back(0), 0);
        }
        s.due("calls so far", calls, 511);
        s.due("call 512", x.digest(), village().digest());
    }

    private static void nights(Sentences s) {
        s.says(TERMS, "THE NIGHTS are a text of up to 40 bytes (text 1)");
        fillsUp(s, 1);

        s.says(TERMS, "a letter a to z for each NIGHT (0 on)");
        fitsOnly(s, 1, "", "", "abcdefghijklmnopqrstuvwxyz");
        fitsOnly(s, 1, "a", "z", "abcdefghijklmnopqrstuvwxyz");
        FrostDebts x = typed("", times("b", 39, "") + "y", "");
        s.due("forty", x.count(1), 40);
        s.due("the first is 0", x.warm(0), 1);
        s.due("the last is 39", x.warm(39), 24);
        s.due("40", x.warm(40), BAD);
        s.due("-1", x.warm(-1), BAD);

        s.says(TERMS, "how WARM it is (0 to 25)");
        FrostDebts all = typed("", "abcdefghijklmnopqrstuvwxyz", "");
        for (int n = 0; n < 26; n++) s.due("letter " + n, all.warm(n), n);
    }

    private static void debts(Sentences s) {
        s.says(TERMS, "DEBTS are a text of up to 71 bytes (text 2)");
        fillsUp(s, 2);

        s.says(TERMS, "9 at most (0 on)");
        FrostDebts x = typed("", "", NINE_DEBTS);
        s.due("nine", x.count(2), 9);
        s.due("the first is 0", x.debt(0, 2), 1);
        s.due("the last is 8", x.debt(8, 2), 99);
        s.due("9", x.debt(9, 2), BAD);
        s.due("-1", x.debt(-1, 2), BAD);

        s.says(TERMS, "with ; between them: a letter a to f");
        fitsOnly(s, 2, "ab01000", "cd02000", ";");
        s.due("ahead of all", faultOf(2, ";ab01000"), 0);
        s.due("behind all", faultOf(2, "ab01000;"), 8);
        s.due("two", faultOf(2, "ab01000;;cd02000"), 8);

        s.says(TERMS, "a letter a to f, who owes");
        fitsOnly(s, 2, "", "b01000", "abcdef");
        fitsOnly(s, 2, "ab01000;", "b01000", "abcdef");

        s.says(TERMS, "a letter a to f, who lent");
        fitsOnly(s, 2, "a", "01000", "abcdef");
        fitsOnly(s, 2, "ab01000;a", "01000", "abcdef");

        s.says(TERMS, "(PERSONS 0 to 5)");
        for (int p = 0; p <= 5; p++) {
            char letter = (char) ('a' + p);
            s.due("who owes " + letter, typed("", "", letter + "b01000").debt(0, 0), p);
            s.due("who lent " + letter, typed("", "", "b" + letter + "01000").debt(0, 1), p);
            s.due("owes of " + p, village().owes(p, 39, 0), p == 3 ? 40 : 0);
        }
        s.due("owes of 6", village().owes(6, 39, 0), BAD);
        s.due("owes of -1", village().owes(-1, 39, 0), BAD);
    }

    private static void figuresOfDebts(Sentences s) {
        s.says(TERMS, "two figures, how much (01 to 99)");
        fitsOnly(s, 2, "ab", "5000", "0123456789");
        fitsOnly(s, 2, "ab0", "000", "123456789");
        fitsOnly(s, 2, "ab1", "000", "0123456789");
        fitsOnly(s, 2, "ab9", "000", "0123456789");
        int[] sums = {1, 9, 10, 11, 90, 98, 99};
        for (int sum : sums) s.due(sum + "", typed("", "", "ab" + two(sum) + "000").debt(0, 2), sum);

        s.says(TERMS, "a figure 0 to 7, its PLACE");
        fitsOnly(s, 2, "ab01", "00", "01234567");
        for (int p = 0; p <= 7; p++) s.due("place " + p, typed("", "", "ab01" + p + "00").debt(0, 3), p);

        s.says(TERMS, "a figure 0 to 3 and a figure, from which NIGHT on (00 to 39)");
        fitsOnly(s, 2, "ab010", "0", "0123");
        fitsOnly(s, 2, "ab010", "9", "0123");
        fitsOnly(s, 2, "ab0100", "", "0123456789");
        fitsOnly(s, 2, "ab0103", "", "0123456789");
        for (int n = 0; n < 40; n++) s.due("night " + n, typed("", "", "ab010" + two(n)).debt(0, 4), n);
    }

    private static String two(int v) {
        return v / 10 + "" + v % 10;
    }

    private static void faults(Sentences s) {
        s.says(TERMS, "The FAULT of a text is the place of the first byte with which it cannot go on");
        s.due("the first of two", faultOf(0, "4x;yy"), 1);
        s.due("whatever follows", faultOf(0, "x4o;5o"), 0);
        s.due("a night", faultOf(1, "ab;c;"), 2);
        s.due("of the last debt", faultOf(2, times("ab01000", 8, ";") + ";ab0100x"), 70);
        s.due("of the last place", faultOf(0, times("4w", 7, ";") + ";4x"), 22);
        s.due("of the last night", faultOf(1, times("m", 39, "") + "M"), 39);

        s.says(TERMS, "an empty one is well");
        for (int text = 0; text < 3; text++) s.due("text " + text, faultOf(text, ""), NONE);

        s.says(TERMS, "of one that is not ended, its end");
        for (int n = 1; n <= 8; n++) s.due("places " + n, faultOf(0, "4w;5o;6h".substring(0, n)), n % 3 == 2 ? NONE : n);
        String debts = "ab01000;cd02000;ef03000";
        for (int n = 1; n <= 23; n++) s.due("debts " + n, faultOf(2, debts.substring(0, n)), n % 8 == 7 ? NONE : n);
        for (int n = 1; n <= 40; n++) s.due("nights " + n + " are ended", faultOf(1, times("m", n, "")), NONE);

        s.says(TERMS, "here also of the second figure of 00 (how much)");
        s.due("00", faultOf(2, "ab00000"), 3);
        s.due("00 and no more", faultOf(2, "ab00"), 3);
        s.due("0 can go on", faultOf(2, "ab0"), 3);
        s.due("behind another debt", faultOf(2, "ab01000;ab00000"), 11);
        s.due("01", faultOf(2, "ab01000"), NONE);
        s.due("10", faultOf(2, "ab10000"), NONE);
        s.due("00 as the night", faultOf(2, "ab11100"), NONE);

        s.says(TERMS, "or of the first byte of one too many");
        for (int text = 0; text < 3; text += 2) {
            FrostDebts x = typed(FULL_TEXTS[0], "", FULL_TEXTS[2]);
            s.due("its ; finds no room", x.type(text, ';'), FULL);
            s.due("nor does it", x.type(text, text == 0 ? '1' : 'a'), FULL);
            s.due("so it is no fault", x.fault(text), NONE);
            s.due("of as many", x.count(text), text == 0 ? 8 : 9);
        }
    }

    private static void faultyIsEmpty(Sentences s) {
        s.says(TERMS, "With a FAULT a text is as if it was empty.");
        FrostDebts places = village();
        places.type(0, ';');
        s.due("no places", places.count(0), 0);
        s.due("not the first", places.place(0, 0), BAD);
        s.due("nor its frost", places.first(0), BAD);
        s.due("none has had frost", places.had(39), 0);
        s.due("debts are nothing", places.lasts(0, 1), 1);
        s.due("where", places.where(0, 0, 0), NONE);
        s.due("its bytes are there", places.count(3), 15);
        s.due("the others are well", places.count(1) + 100 * places.count(2), 612);
        places.undo(0);
        s.due("well again", places.digest(), village().digest());
        FrostDebts nights = village();
        nights.type(1, '0');
        s.due("no nights", nights.count(1), 0);
        s.due("not the first", nights.warm(0), BAD);
        s.due("no frost", nights.first(0), NONE);
        s.due("all that has a place stands", nights.never(), 31);
        s.due("its bytes are there", nights.count(4), 13);
        nights.undo(1);
        s.due("well again", nights.digest(), village().digest());
        FrostDebts debts = village();
        debts.type(2, ';');
        s.due("no debts", debts.count(2), 0);
        s.due("not the first", debts.debt(0, 0), BAD);
        s.due("nothing is owed", debts.owes(0, 0, 0) + debts.hangs(0) + debts.never(), 0);
        s.due("its bytes are there", debts.count(5), 48);
        debts.undo(2);
        s.due("well again", debts.digest(), village().digest());
    }

    private static void newObject(Sentences s) {
        s.says(1, "No PLACES, no NIGHTS, no DEBTS; all SHEETS are LOST.");
        FrostDebts x = new FrostDebts();
        for (int what = 0; what <= 8; what++) s.due("count " + what, x.count(what), 0);
        s.due("place 0", x.place(0, 0), BAD);
        s.due("night 0", x.warm(0), BAD);
        s.due("debt 0", x.debt(0, 0), BAD);
        for (int sheet = 0; sheet < 4; sheet++) s.due("sheet " + sheet, x.lose(sheet), NULL);
        FrostDebts other = village();
        other.sheet(0, 0, 1);
        s.due("nothing of another object", new FrostDebts().count(0), 0);
        s.due("nor its sheet", new FrostDebts().lose(0), NULL);
    }

    private static void type(Sentences s) {
        s.says(2, "A byte (0 to 255)");
        FrostDebts x = new FrostDebts();
        s.due("0", x.type(1, 0), 1);
        s.due("255", x.type(1, 255), 2);
        s.due("-1", x.type(1, -1), BAD);
        s.due("256", x.type(1, 256), BAD);
        s.due("a letter and 256", x.type(1, 'a' + 256), BAD);
        s.due("two came", x.count(4), 2);

        s.says(2, "comes behind a text: how many");
        FrostDebts y = new FrostDebts();
        s.due("to nights", y.type(1, 'a'), 1);
        s.due("behind it", y.type(1, 'z'), 2);
        s.due("to places", y.type(0, '4'), 1);
        s.due("the first night", y.warm(0), 0);
        s.due("the second", y.warm(1), 25);

        s.says(2, "BAD;");
        for (int text : new int[] {LEAST, -1, 3, MOST}) s.due("text " + text, y.type(text, 'a'), BAD);
        for (int b : new int[] {LEAST, -1, 256, MOST}) s.due("byte " + b, y.type(0, b), BAD);
        s.due("nothing came", y.count(3) + 100 * y.count(4) + 10000 * y.count(5), 201);

        s.says(2, "FULL.");
        FrostDebts full = typed(FULL_TEXTS[0], FULL_TEXTS[1], FULL_TEXTS[2]);
        long digest = full.digest();
        for (int text = 0; text < 3; text++) {
            s.due("text " + text, full.type(text, 'a'), FULL);
            s.due("bad ahead of it", full.type(text, 256), BAD);
            full.undo(text);
            s.due("room again", full.type(text, FULL_TEXTS[text].charAt(ROOMS[text] - 1)), ROOMS[text]);
            s.due("and full", full.type(text, 0), FULL);
        }
        s.due("nothing changed", full.digest(), digest);
    }

    private static void wipe(Sentences s) {
        s.says(3, "A text is empty: how many bytes it had.");
        FrostDebts x = typed(FULL_TEXTS[0], FULL_TEXTS[1], FULL_TEXTS[2]);
        for (int text = 0; text < 3; text++) {
            s.due("full " + text, x.wipe(text), ROOMS[text]);
            s.due("empty " + text, x.wipe(text), 0);
            s.due("well", x.fault(text), NONE);
            s.due("none", x.count(text) + x.count(3 + text), 0);
            if (text < 2) s.due("the next is left", x.count(4 + text), ROOMS[text + 1]);
            s.due("room from the first byte on", x.type(text, 'x'), 1);
            s.due("with a fault", x.wipe(text), 1);
        }

        s.says(3, "BAD.");
        FrostDebts y = village();
        for (int text : new int[] {LEAST, -1, 3, MOST}) s.due("text " + text, y.wipe(text), BAD);
        s.due("nothing changed", y.digest(), village().digest());
    }

    private static void undo(Sentences s) {
        s.says(4, "The last byte of a text is undone: how many are left.");
        FrostDebts x = typed("4w;5o", "az", "ab01000");
        s.due("a night", x.undo(1), 1);
        s.due("the first is left", x.warm(0), 0);
        s.due("the last is not", x.warm(1), BAD);
        s.due("the only one", x.undo(1), 0);
        s.due("no nights", x.count(1), 0);
        for (int left = 4; left >= 0; left--) {
            s.due("places", x.undo(0), left);
            s.due("as many as are well", x.count(0), left == 2 ? 1 : 0);
        }
        s.due("debts", x.undo(2), 6);
        s.due("its end", x.fault(2), 6);
        s.due("typed again", x.type(2, '9'), 7);
        s.due("another night", x.debt(0, 4), 9);

        s.says(4, "BAD;");
        for (int text : new int[] {LEAST, -1, 3, MOST}) s.due("text " + text, x.undo(text), BAD);
        s.due("as many", x.count(5), 7);

        s.says(4, "NOT: it is empty");
        for (int text = 0; text < 3; text++) {
            FrostDebts y = new FrostDebts();
            s.due("new " + text, y.undo(text), NOT);
            y.type(text, 'a');
            s.due("one byte", y.undo(text), 0);
            s.due("again", y.undo(text), NOT);
            s.due("no less than none", y.count(3 + text), 0);
            s.due("the next byte is the first", y.type(text, 'a'), 1);
        }
    }

    private static void fault(Sentences s) {
        s.says(5, "The FAULT of a text; NONE.");
        FrostDebts x = typed("4x", "a", "ab");
        s.due("places", x.fault(0), 1);
        s.due("nights", x.fault(1), NONE);
        s.due("debts", x.fault(2), 2);
        s.due("at 0", faultOf(0, "x"), 0);
        s.due("at the end of a full one", faultOf(0, times("4w", 7, ";") + ";4"), 22);

        s.says(5, "BAD.");
        for (int text : new int[] {LEAST, -1, 3, MOST}) s.due("text " + text, x.fault(text), BAD);
    }

    private static void placeWarmDebt(Sentences s) {
        s.says(6, "HEIGHT (what = 0), kind (1: 0 o, 1 h, 2 w, 3 s) of a PLACE.");
        FrostDebts x = typed("9o;0h;8w;1s", "bz", "fa99739;ab01000");
        int[][] places = {{9, 0}, {0, 1}, {8, 2}, {1, 3}};
        for (int p = 0; p < 4; p++) {
            for (int what = 0; what < 2; what++) s.due(p + ", " + what, x.place(p, what), places[p][what]);
        }

        s.says(6, "BAD.");
        for (int p : new int[] {LEAST, -1, 4, 8, MOST}) s.due("place " + p, x.place(p, 0), BAD);
        for (int what : new int[] {LEAST, -1, 2, MOST}) s.due("what " + what, x.place(0, what), BAD);

        s.says(7, "How WARM a NIGHT is.");
        s.due("the first", x.warm(0), 1);
        s.due("the last", x.warm(1), 25);

        s.says(7, "BAD: no such NIGHT.");
        for (int night : new int[] {LEAST, -1, 2, 39, MOST}) s.due("night " + night, x.warm(night), BAD);

        s.says(8, "Who owes (what = 0), who lent (1), how much (2), PLACE (3), from which NIGHT on (4) of a DEBT.");
        int[][] debts = {{5, 0, 99, 7, 39}, {0, 1, 1, 0, 0}};
        for (int d = 0; d < 2; d++) {
            for (int what = 0; what < 5; what++) s.due(d + ", " + what, x.debt(d, what), debts[d][what]);
        }

        s.says(8, "BAD.");
        for (int d : new int[] {LEAST, -1, 2, 8, MOST}) s.due("debt " + d, x.debt(d, 0), BAD);
        for (int what : new int[] {LEAST, -1, 5, MOST}) s.due("what " + what, x.debt(0, what), BAD);
    }

    private static void zero(Sentences s) {
        s.says(9, "ZERO: what it was.");
        FrostDebts x = new FrostDebts();
        int was = 6;
        for (int v : new int[] {0, 25, 25, 1, 24, 6}) {
            s.due("zero " + v, x.zero(v), was);
            was = v;
        }

        s.says(9, "BAD.");
        for (int v : new int[] {LEAST, -1, 26, MOST}) s.due("zero " + v, x.zero(v), BAD);
        s.due("as it was", x.zero(6), 6);
    }
}
