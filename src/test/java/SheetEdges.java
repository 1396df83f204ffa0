/** Sheets and findings: their terms, promises 35 to 41, and the order of refusals. */
final class SheetEdges extends Edges {
    static void look(Sentences s) {
        sheetTerms(s);
        findings(s);
        refusals(s);
        sheet(s);
        lose(s);
        put(s);
        get(s);
        copy(s);
        copyIndex(s);
        write(s);
        count(s);
    }

    private static void sheetTerms(Sentences s) {
        s.says(TERMS, "SHEETS 0 .. 3 are LOST (at first)");
        for (int sheet = 0; sheet < 4; sheet++) {
            FrostDebts x = new FrostDebts();
            s.due("sheet " + sheet + " is lost", x.get(sheet, 0, 0), LEAST);
            s.due("null", x.count(8), 1);
            s.due("it can be made", x.sheet(sheet, 0, 1), 1);
            for (int other = 0; other < 4; other++) if (other != sheet) s.due("not " + other, x.lose(other), NULL);
            s.due("now it is there", x.lose(sheet), 1);
        }
        s.due("sheet 4", new FrostDebts().sheet(4, 0, 1), BAD);
        s.due("sheet -1", new FrostDebts().sheet(-1, 0, 1), BAD);

        s.says(TERMS, "a row of a FORM: 0 bytes, 1 shorts, 2 ints");
        int[] least = {-128, -32768, LEAST};
        int[] most = {127, 32767, MOST};
        for (int form = 0; form < 3; form++) {
            FrostDebts x = new FrostDebts();
            fill(x, 0, form, least[form], most[form]);
            s.due("the least of " + form, x.get(0, form, 0), least[form]);
            s.due("the most of " + form, x.get(0, form, 1), most[form]);
            x.put(0, form, 0, least[form] - 1);
            x.put(0, form, 1, most[form] + 1);
            s.due("one less than the least of " + form, x.get(0, form, 0), most[form]);
            s.due("one more than the most of " + form, x.get(0, form, 1), least[form]);
        }

        s.says(TERMS, "of 0 to 48 items");
        FrostDebts y = new FrostDebts();
        for (int n = 0; n <= 48; n++) {
            s.due(n + " items", y.sheet(0, 2, n), n);
            if (n > 0) s.due("the last of " + n, y.put(0, 2, n - 1, 1), 1);
            s.due("behind the last of " + n, y.put(0, 2, n, 1), INDEX);
        }
        s.due("49", y.sheet(0, 2, 49), BAD);
        s.due("-1", y.sheet(0, 2, -1), SIZE);

        s.says(TERMS, "items (0 at first)");
        for (int form = 0; form < 3; form++) {
            FrostDebts x = new FrostDebts();
            x.sheet(form, form, 48);
            for (int i = 0; i < 48; i++) s.due("item " + i, x.get(form, form, i), 0);
        }
    }

    private static void findings(Sentences s) {
        s.says(TERMS, "FINDINGS (answers -10 less the number; they change nothing but count() 8)");
        FrostDebts x = new FrostDebts();
        fill(x, 0, 0, 5, 6);
        fill(x, 1, 1, 7);
        long digest = x.digest();
        int[] got = {x.lose(2), x.put(0, 0, 2, 1), x.put(0, 1, 0, 1), x.copy(0, 0, 1, 0, 1), x.sheet(0, 2, -1)};
        for (int i = 0; i < 5; i++) s.due("finding " + (i + 1), got[i], -11 - i);
        s.due("the latest", x.count(8), 5);
        s.due("the rest", x.digest(), digest);
        s.due("item 0", x.get(0, 0, 0), 5);
        s.due("item 1", x.get(0, 0, 1), 6);
        s.due("the other sheet", x.get(1, 1, 0), 7);
        s.due("as many", x.lose(0), 2);
        s.due("what is well is no finding", x.count(8), 5);

        s.says(TERMS, "1 NULL: the SHEET is LOST");
        s.due("lost", x.lose(0), -11);
        s.due("count", x.count(8), 1);

        s.says(TERMS, "2 INDEX: there is no such item");
        s.due("item 1 of 1", x.put(1, 1, 1, 0), -12);
        s.due("count", x.count(8), 2);
        s.due("item -1", x.put(1, 1, -1, 0), -12);
        x.sheet(2, 0, 0);
        s.due("item 0 of none", x.put(2, 0, 0, 0), -12);

        s.says(TERMS, "3 CAST: it has another FORM");
        s.due("a short as a byte", x.put(1, 0, 0, 0), -13);
        s.due("count", x.count(8), 3);
        s.due("a short as an int", x.put(1, 2, 0, 0), -13);

        s.says(TERMS, "4 STORE: unlike FORMS");
        s.due("a byte to shorts", x.copy(2, 0, 1, 0, 0), -14);
        s.due("count", x.count(8), 4);

        s.says(TERMS, "5 SIZE: below 0");
        s.due("-1", x.sheet(3, 0, -1), -15);
        s.due("count", x.count(8), 5);
        s.due("0", x.sheet(3, 0, 0), 0);
    }

    /** RefusalsTest goes through all calls; here is one for each pair that the order tells. */
    private static void refusals(Sentences s) {
        s.says(TERMS, "Refusals, the first that fits, in the order told at each act");
        FrostDebts x = new FrostDebts();
        fill(x, 0, 0, 5);
        x.sheet(1, 1, 1);
        s.due("BAD, NULL, CAST, INDEX", x.put(4, 1, 9, 0), BAD);
        s.due("NULL, CAST, INDEX", x.put(3, 1, 9, 0), NULL);
        s.due("CAST, INDEX", x.put(0, 1, 9, 0), CAST);
        s.due("INDEX", x.put(0, 0, 9, 0), INDEX);
        s.due("BAD, NULL, STORE, INDEX", x.copy(3, -1, 4, -1, -1), BAD);
        s.due("NULL, STORE, INDEX", x.copy(3, -1, 1, -1, -1), NULL);
        s.due("STORE, INDEX", x.copy(0, -1, 1, -1, -1), STORE);
        s.due("INDEX alone", x.copy(0, -1, 0, -1, -1), INDEX);
        s.due("BAD, SIZE", x.sheet(4, 0, -1), BAD);
        s.due("BAD by its form, SIZE", x.sheet(0, 3, -1), BAD);
        s.due("BAD, NOT", x.undo(3), BAD);

        s.says(TERMS, "BAD -2 (a number not as told, no such thing), NULL, NOT -3 (as told), FULL -4, other FINDINGS");
        s.due("BAD, a number", x.zero(26), -2);
        s.due("BAD, no such thing", x.warm(0), -2);
        s.due("NOT", x.undo(0), -3);
        for (int i = 0; i < 8; i++) x.cloud(0);
        s.due("FULL", x.cloud(0), -4);
        s.due("BAD ahead of FULL", x.cloud(40), -2);
        s.due("BAD as it is named", FrostDebts.BAD, -2);
        s.due("NOT as it is named", FrostDebts.NOT, -3);
        s.due("FULL as it is named", FrostDebts.FULL, -4);
        s.due("NONE as it is named", FrostDebts.NONE, -1);

        s.says(TERMS, "They change nothing (FINDINGS but count() 8).");
        FrostDebts village = village();
        village.lose(0);
        village.type(0, 256);
        village.zero(26);
        village.cloud(40);
        village.back(0);
        village.seen(0, 0, 2);
        s.due("as it was", village.digest(), village().digest());
        s.due("the latest finding", village.count(8), 1);

        s.says(TERMS, "Where any number is told, a refusal is -1000 less x");
        s.due("BAD of warmth", village.warmth(0, 5), -1002);
    }

    private static void sheet(Sentences s) {
        s.says(35, "A SHEET is a new row of a FORM with n items: n.");
        FrostDebts x = new FrostDebts();
        fill(x, 0, 2, 1, 2, 3);
        s.due("anew", x.sheet(0, 2, 3), 3);
        for (int i = 0; i < 3; i++) s.due("item " + i, x.get(0, 2, i), 0);
        fill(x, 0, 2, 1, 2, 3);
        s.due("of another form", x.sheet(0, 1, 2), 2);
        s.due("a short", x.get(0, 1, 1), 0);
        s.due("no int", x.put(0, 2, 0, 1), CAST);
        s.due("two", x.put(0, 1, 2, 1), INDEX);
        x.put(0, 1, 1, 9);
        x.sheet(0, 1, 0);
        x.sheet(0, 1, 48);
        s.due("nothing of what was", x.get(0, 1, 1), 0);
        s.due("the others are lost", x.lose(1), NULL);

        s.says(35, "BAD: SHEET, FORM, above 48");
        fill(x, 0, 2, 7);
        int finding = x.count(8);
        for (int sheet : new int[] {LEAST, -1, 4, MOST}) s.due("sheet " + sheet, x.sheet(sheet, 0, 1), BAD);
        for (int form : new int[] {LEAST, -1, 3, MOST}) s.due("form " + form, x.sheet(0, form, 1), BAD);
        for (int n : new int[] {49, 50, MOST}) s.due("items " + n, x.sheet(0, 0, n), BAD);
        s.due("bad ahead of size", x.sheet(4, 0, -1), BAD);
        s.due("its form, too", x.sheet(0, 3, LEAST), BAD);
        s.due("as it was", x.get(0, 2, 0), 7);
        s.due("no finding", x.count(8), finding);

        s.says(35, "SIZE.");
        for (int n : new int[] {-1, -48, -49, LEAST}) {
            x.lose(3);
            s.due("items " + n, x.sheet(0, 0, n), SIZE);
            s.due("finding", x.count(8), 5);
        }
        s.due("as it was", x.get(0, 2, 0), 7);
        s.due("a lost one", x.sheet(3, 0, -1), SIZE);
        s.due("is lost still", x.lose(3), NULL);
    }

    private static void lose(Sentences s) {
        s.says(36, "It is LOST: how many items it had.");
        FrostDebts x = new FrostDebts();
        x.sheet(0, 0, 0);
        x.sheet(3, 2, 48);
        s.due("0", x.lose(0), 0);
        s.due("48", x.lose(3), 48);
        s.due("lost", x.put(3, 2, 0, 1), NULL);
        s.due("made again", x.sheet(3, 2, 1), 1);
        s.due("of 0", x.get(3, 2, 0), 0);

        s.says(36, "BAD;");
        for (int sheet : new int[] {LEAST, -1, 4, MOST}) s.due("sheet " + sheet, x.lose(sheet), BAD);
        s.due("no finding behind the one there was", x.count(8), 1);

        s.says(36, "NULL.");
        x.sheet(0, 0, -1);
        s.due("lost", x.lose(0), NULL);
        s.due("finding", x.count(8), 1);
        s.due("again", x.lose(0), NULL);
    }

    private static void put(Sentences s) {
        s.says(37, "Item i, treated as of a FORM, becomes v (the lowest bits that it has): 1.");
        int[][] kept = {{0, 127, 127}, {0, 128, -128}, {0, 255, -1}, {0, 256, 0}, {0, -128, -128}, {0, -129, 127}, {0, MOST, -1},
            {0, LEAST, 0}, {1, 32767, 32767}, {1, 32768, -32768}, {1, 65535, -1}, {1, 65536, 0}, {1, -32768, -32768},
            {1, -32769, 32767}, {1, MOST, -1}, {1, LEAST, 0}, {2, MOST, MOST}, {2, LEAST, LEAST}, {2, -1, -1}};
        for (int[] one : kept) {
            FrostDebts x = new FrostDebts();
            x.sheet(1, one[0], 48);
            s.due("the first item", x.put(1, one[0], 0, one[1]), 1);
            s.due("the last item", x.put(1, one[0], 47, one[1]), 1);
            s.due(one[1] + " in form " + one[0], x.get(1, one[0], 0), one[2]);
            s.due(one[1] + " at the end", x.get(1, one[0], 47), one[2]);
            s.due("not the one between", x.get(1, one[0], 1), 0);
        }

        s.says(37, "BAD;");
        FrostDebts x = new FrostDebts();
        fill(x, 0, 1, 3);
        for (int sheet : new int[] {LEAST, -1, 4, MOST}) s.due("sheet " + sheet, x.put(sheet, 1, 0, 9), BAD);
        for (int form : new int[] {LEAST, -1, 3, MOST}) s.due("form " + form, x.put(0, form, 0, 9), BAD);
        s.due("bad ahead of null", x.put(1, 3, 0, 9), BAD);
        s.due("bad ahead of index", x.put(0, 3, 1, 9), BAD);
        s.due("no finding", x.count(8), 0);

        s.says(37, "NULL;");
        s.due("lost", x.put(1, 1, 0, 9), NULL);
        s.due("finding", x.count(8), 1);
        s.due("ahead of index", x.put(1, 1, -1, 9), NULL);

        s.says(37, "CAST;");
        for (int form : new int[] {0, 2}) s.due("form " + form, x.put(0, form, 0, 9), CAST);
        s.due("finding", x.count(8), 3);
        s.due("ahead of index", x.put(0, 0, 1, 9), CAST);

        s.says(37, "INDEX.");
        for (int i : new int[] {LEAST, -1, 1, 47, 48, MOST}) s.due("item " + i, x.put(0, 1, i, 9), INDEX);
        s.due("finding", x.count(8), 2);
        s.due("as it was", x.get(0, 1, 0), 3);
    }

    private static void get(Sentences s) {
        s.says(38, "Item i of it.");
        for (int form = 0; form < 3; form++) {
            FrostDebts x = new FrostDebts();
            fill(x, 2, form, 4, -5, 6);
            int[] want = {4, -5, 6};
            for (int i = 0; i < 3; i++) s.due("item " + i + " of form " + form, x.get(2, form, i), want[i]);
            s.due("no finding", x.count(8), 0);
        }

        s.says(38, "BAD: the least int");
        FrostDebts x = new FrostDebts();
        fill(x, 0, 2, LEAST);
        for (int sheet : new int[] {LEAST, -1, 4, MOST}) s.due("sheet " + sheet, x.get(sheet, 2, 0), -2147483648);
        for (int form : new int[] {LEAST, -1, 3, MOST}) s.due("form " + form, x.get(0, form, 0), -2147483648);
        s.due("bad ahead of null", x.get(1, 3, 0), -2147483648);
        s.due("no finding", x.count(8), 0);
        s.due("an item may be so, too", x.get(0, 2, 0), -2147483648);
        s.due("which is no finding", x.count(8), 0);

        s.says(38, "so are NULL, CAST, INDEX (count() 8 tells)");
        int[][] found = {{1, 2, 0, 1}, {0, 1, 0, 3}, {0, 2, 1, 2}, {0, 2, -1, 2}, {0, 2, MOST, 2}, {0, 2, LEAST, 2}, {1, 0, 9, 1}, {0, 0, 9, 3}};
        for (int[] one : found) {
            x.sheet(3, 0, -1);
            s.due("get of " + one[0] + ", " + one[1] + ", " + one[2], x.get(one[0], one[1], one[2]), LEAST);
            s.due("finding", x.count(8), one[3]);
        }
    }

    private static void items(Sentences s, FrostDebts x, int sheet, int form, int... want) {
        for (int i = 0; i < want.length; i++) s.due("item " + i, x.get(sheet, form, i), want[i]);
    }

    private static void copy(Sentences s) {
        s.says(39, "n items of SHEET s, from i on, come to SHEET t (perhaps s, as they were), from j on: 1.");
        for (int form = 0; form < 3; form++) {
            FrostDebts x = new FrostDebts();
            fill(x, 0, form, 1, 2, 3, 4, 5);
            fill(x, 3, form, -1, -2, -3);
            s.due("two", x.copy(0, 3, 3, 0, 2), 1);
            items(s, x, 3, form, 4, 5, -3);
            items(s, x, 0, form, 1, 2, 3, 4, 5);
            s.due("up by one, as they were", x.copy(0, 0, 0, 1, 4), 1);
            items(s, x, 0, form, 1, 1, 2, 3, 4);
            s.due("down by two, as they were", x.copy(0, 2, 0, 0, 3), 1);
            items(s, x, 0, form, 2, 3, 4, 3, 4);
            s.due("onto itself", x.copy(0, 0, 0, 0, 5), 1);
            items(s, x, 0, form, 2, 3, 4, 3, 4);
        }
        FrostDebts full = new FrostDebts();
        full.sheet(0, 2, 48);
        full.sheet(1, 2, 48);
        full.put(0, 2, 0, 8);
        full.put(0, 2, 47, 9);
        s.due("all 48", full.copy(0, 0, 1, 0, 48), 1);
        s.due("the first", full.get(1, 2, 0), 8);
        s.due("the last", full.get(1, 2, 47), 9);

        s.says(39, "BAD: the SHEETS");
        FrostDebts y = new FrostDebts();
        fill(y, 0, 0, 1);
        for (int sheet : new int[] {LEAST, -1, 4, MOST}) {
            s.due("from " + sheet, y.copy(sheet, 0, 0, 0, 1), BAD);
            s.due("to " + sheet, y.copy(0, 0, sheet, 0, 1), BAD);
            s.due("ahead of null", y.copy(3, 0, sheet, 0, 1), BAD);
            s.due("ahead of index", y.copy(0, 9, sheet, 0, 1), BAD);
        }
        s.due("no finding", y.count(8), 0);

        s.says(39, "NULL: s, t;");
        s.due("s is lost", y.copy(3, 0, 0, 0, 1), NULL);
        s.due("t is lost", y.copy(0, 0, 3, 0, 1), NULL);
        s.due("both are", y.copy(2, 0, 3, 0, 0), NULL);
        s.due("one, onto itself", y.copy(2, 0, 2, 0, 0), NULL);
        s.due("ahead of index", y.copy(0, -1, 3, 0, 1), NULL);
        s.due("finding", y.count(8), 1);

        s.says(39, "STORE;");
        y.sheet(1, 1, 1);
        y.sheet(2, 2, 1);
        int[][] unlike = {{0, 1}, {1, 0}, {0, 2}, {2, 0}, {1, 2}, {2, 1}};
        for (int[] one : unlike) s.due(one[0] + " to " + one[1], y.copy(one[0], 0, one[1], 0, 1), STORE);
        s.due("none of it", y.copy(0, 0, 1, 0, 0), STORE);
        s.due("ahead of index", y.copy(0, -1, 1, 9, -1), STORE);
        s.due("finding", y.count(8), 4);
        s.due("nothing came", y.get(1, 1, 0), 0);
    }

    private static void copyIndex(Sentences s) {
        s.says(39, "INDEX: below 0, not so many.");
        FrostDebts x = new FrostDebts();
        fill(x, 0, 1, 1, 2, 3);
        fill(x, 1, 1, 7, 8);
        int[][] well = {{0, 0, 0}, {3, 0, 0}, {0, 2, 0}, {3, 2, 0}};
        for (int[] one : well) s.due("none from " + one[0] + " to " + one[1], x.copy(0, one[0], 1, one[1], one[2]), 1);
        int[][] wrong = {{-1, 0, 1}, {0, -1, 1}, {0, 0, -1}, {-1, 0, 0}, {0, -1, 0}, {4, 0, 0}, {0, 3, 0}, {0, 0, 3}, {2, 0, 2}, {0, 1, 2},
            {3, 0, 1}, {0, 2, 1}, {MOST, 0, 1}, {0, MOST, 1}, {0, 0, MOST}, {MOST, 0, MOST}, {1, 1, MOST}, {LEAST, 0, 1}, {0, LEAST, 1},
            {0, 0, LEAST}, {LEAST, 0, MOST}, {MOST, MOST, MOST}, {2, 1, -1}, {2, 0, MOST - 1}};
        for (int[] one : wrong) {
            x.lose(3);
            s.due(one[2] + " from " + one[0] + " to " + one[1], x.copy(0, one[0], 1, one[1], one[2]), INDEX);
            s.due("finding", x.count(8), 2);
        }
        items(s, x, 0, 1, 1, 2, 3);
        items(s, x, 1, 1, 7, 8);
        x.sheet(2, 1, 0);
        s.due("none of an empty one", x.copy(2, 0, 2, 0, 0), 1);
        s.due("one of an empty one", x.copy(2, 0, 2, 0, 1), INDEX);
    }

    private static void write(Sentences s) {
        s.says(40, "What all OWE together (what = 0), HANGS (1) behind NIGHTS 0 on comes to a SHEET from item 0 on");
        FrostDebts x = typed("0o;0o", warmThenCold(39, 1), "ab03001;cd04100;ba05700");
        x.ice(2, 1);
        x.sheet(0, 2, 40);
        s.due("sums", x.write(0, 0), 40);
        for (int n = 0; n < 40; n++) {
            int want = n == 0 ? 4 : n == 1 ? 7 : n < 39 ? 3 : 0;
            s.due("sum behind " + n, x.get(0, 2, n), want);
        }
        s.due("hangs", x.write(1, 0), 40);
        for (int n = 0; n < 40; n++) {
            int want = n == 0 ? 4 : n == 1 ? 5 : n < 39 ? 1 : 0;
            s.due("hangs behind " + n, x.get(0, 2, n), want);
        }

        s.says(40, "as many as there are items, 40 at most: how many.");
        FrostDebts y = typed("0o", "z", times("ab99000", 9, ";"));
        for (int n : new int[] {0, 1, 39, 40, 41, 48}) {
            y.sheet(1, 2, n);
            for (int i = 40; i < n; i++) y.put(1, 2, i, -7);
            s.due("of " + n, y.write(0, 1), Math.min(n, 40));
            if (n > 0) s.due("the first", y.get(1, 2, 0), 891);
            if (n > 0) s.due("the last", y.get(1, 2, Math.min(n, 40) - 1), 891);
            for (int i = 40; i < n; i++) s.due("behind them", y.get(1, 2, i), -7);
        }
        y.sheet(1, 0, 1);
        y.write(0, 1);
        s.due("891 as a byte", y.get(1, 0, 0), 123);
        y.sheet(1, 1, 1);
        y.write(0, 1);
        s.due("891 as a short", y.get(1, 1, 0), 891);

        s.says(40, "BAD;");
        FrostDebts z = new FrostDebts();
        z.sheet(0, 0, 1);
        for (int what : new int[] {LEAST, -1, 2, MOST}) s.due("what " + what, z.write(what, 0), BAD);
        for (int sheet : new int[] {LEAST, -1, 4, MOST}) s.due("sheet " + sheet, z.write(0, sheet), BAD);
        s.due("bad ahead of null", z.write(2, 3), BAD);
        s.due("no finding", z.count(8), 0);

        s.says(40, "NULL.");
        for (int what = 0; what < 2; what++) s.due("lost", z.write(what, 3), NULL);
        s.due("finding", z.count(8), 1);
    }

    private static void count(Sentences s) {
        s.says(41, "0 PLACES, 1 NIGHTS, 2 DEBTS, 3 to 5 bytes of texts, 6 CLOUDS, SMOKE, ICE together, 7 SEEN");
        FrostDebts x = new FrostDebts();
        for (int what = 0; what < 8; what++) s.due("new " + what, x.count(what), 0);
        typeAll(x, 0, times("0o", 8, ";"));
        typeAll(x, 1, times("z", 40, ""));
        typeAll(x, 2, times("ab01000", 9, ";"));
        for (int i = 0; i < 8; i++) {
            x.cloud(39);
            x.smoke(39, 7);
            x.ice(39, 7);
            x.seen(39, 7, 0);
        }
        int[] full = {8, 40, 9, 23, 40, 71, 24, 8};
        for (int what = 0; what < 8; what++) s.due("full " + what, x.count(what), full[what]);
        for (int text = 0; text < 3; text++) {
            x.undo(text);
            x.type(text, 0);
        }
        int[] faulty = {0, 0, 0, 23, 40, 71, 24, 8};
        for (int what = 0; what < 8; what++) s.due("with faults " + what, x.count(what), faulty[what]);
        x.back(0);
        s.due("a cloud fewer", x.count(6), 23);
        x.back(1);
        s.due("smoke fewer", x.count(6), 22);
        x.back(2);
        s.due("ice fewer", x.count(6), 21);

        s.says(41, "8 the number of the latest FINDING (0 before any)");
        s.due("before any", x.count(8), 0);
        x.lose(0);
        s.due("NULL", x.count(8), 1);
        x.sheet(0, 0, -1);
        s.due("SIZE", x.count(8), 5);
        x.sheet(0, 0, 1);
        s.due("what is well leaves it", x.count(8), 5);
        x.sheet(4, 0, 1);
        s.due("so does BAD", x.count(8), 5);
        x.put(0, 1, 0, 0);
        s.due("CAST", x.count(8), 3);

        s.says(41, "BAD.");
        for (int what : new int[] {LEAST, -1, 9, MOST}) s.due("what " + what, x.count(what), BAD);
    }
}
