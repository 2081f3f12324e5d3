import java.util.function.LongSupplier;

/** The boundary cases of the promises 31 to 38: sheets, counts, the digest. */
public final class EdgesOfSheets {
    private static final int NONE = -1, BAD = -2;
    private static final int NULL = -11, INDEX = -12, CAST = -13, STORE = -14, SIZE = -15;
    private static final int LEAST = Integer.MIN_VALUE, MOST = Integer.MAX_VALUE;
    private static final int BYTES = 0, SHORTS = 1, INTS = 2;

    private EdgesOfSheets() {
    }

    public static void main(String[] args) {
        sheetOfEachSize();
        sheetIsANewRow();
        sheetRefusesBadAheadOfSize();
        loseTellsHowManyThereWere();
        loseRefuses();
        putKeepsTheLowestBits();
        putIntoEachItem();
        putRefusesInOrder();
        getEachItem();
        getRefusesInOrder();
        copyOfEachSpan();
        copyWithinASheet();
        copyOfEachForm();
        copyRefusesSpans();
        copyRefusesInOrder();
        writeAsManyAsThereAre();
        writeFromNoneToSeventyTwo();
        writeRefusesBadAheadOfNull();
        countFromNoneToFull();
        countOfTheLatestFinding();
        countOfAFindingLongAgo();
        countRefusesBad();
        digestOfNothing();
        digestOfEdges();
        digestTellsWhatChanges();
        Check.close();
    }

    private static void is(String call, long got, long due) {
        Check.is(call, got, due);
    }

    private static PloughTurns year() {
        return Check.made("d005;c103;r201;d014", "0a1;1c5;0d9;3b2",
            0, 0, 0, 0, 2, 0, 0, 2, 1, 1, 4, 0, 0, 4, 0);
    }

    /** Sheets 0, 1 and 2 of bytes, shorts and ints, with the items 1 on; sheet 3 is lost. */
    private static PloughTurns threeSheets() {
        PloughTurns x = year();
        for (int form = BYTES; form <= INTS; form++) {
            x.sheet(form, form, 4 + form);
            for (int i = 0; i < 4 + form; i++) {
                x.put(form, form, i, 1 + i);
            }
        }
        return x;
    }

    /** A refusal leaves all items of the three sheets, too. */
    private static void refused(String call, PloughTurns x, long due, LongSupplier act) {
        Check.refused(call, x, due, act);
        threeAreAsMade(call, x);
    }

    private static void threeAreAsMade(String call, PloughTurns x) {
        int finding = x.count(8);
        for (int form = BYTES; form <= INTS; form++) {
            for (int i = 0; i < 4 + form; i++) {
                is(call + " leaves item " + i + " of sheet " + form, x.get(form, form, i), 1 + i);
            }
        }
        is(call + ": a get that is not refused leaves the finding", x.count(8), finding);
    }

    // ---- promise 31

    private static void sheetOfEachSize() {
        for (int s = 0; s < 4; s++) {
            for (int form = BYTES; form <= INTS; form++) {
                for (int n : new int[] {0, 1, 59, 60}) {
                    PloughTurns x = new PloughTurns();
                    is("31 sheet of " + n, x.sheet(s, form, n), n);
                    for (int i = 0; i < n; i++) {
                        is("31 0 at first", x.get(s, form, i), 0);
                    }
                    is("31 no item " + n, x.get(s, form, n), LEAST);
                    is("31 no item " + n, x.count(8), 2);
                    is("31 the others are lost yet", x.lose((s + 1) % 4), NULL);
                    is("31 had", x.lose(s), n);
                }
            }
        }
    }

    private static void sheetIsANewRow() {
        PloughTurns x = threeSheets();
        is("31 the same again", x.sheet(2, INTS, 6), 6);
        Check.are("31 0 at first", Check.row(x, 2, INTS, 6), 0, 0, 0, 0, 0, 0);
        Check.putRow(x, 2, INTS, 9, 9, 9, 9, 9, 9);
        is("31 shorter", x.sheet(2, INTS, 2), 2);
        is("31 no item 2", x.put(2, INTS, 2, 1), INDEX);
        is("31 longer again", x.sheet(2, INTS, 60), 60);
        Check.are("31 0 at first", Check.row(x, 2, INTS, 6), 0, 0, 0, 0, 0, 0);
        is("31 of another form", x.sheet(2, BYTES, 1), 1);
        is("31 it has the form", x.put(2, INTS, 0, 1), CAST);
        is("31 it has the form", x.put(2, BYTES, 0, 300), 1);
        is("31 it has the form", x.get(2, BYTES, 0), 44);
        is("31 the others stay", x.get(1, SHORTS, 4), 5);
        // What was lost comes again with 0 in it.
        x.lose(1);
        x.sheet(1, SHORTS, 5);
        is("31 0 at first", x.get(1, SHORTS, 4), 0);
    }

    private static void sheetRefusesBadAheadOfSize() {
        PloughTurns x = threeSheets();
        for (int number : new int[] {LEAST, -1, 4, MOST}) {
            Check.refused("31 sheet " + number, x, BAD, () -> x.sheet(number, 0, 1));
            Check.refused("31 sheet " + number + " ahead of size", x, BAD, () -> x.sheet(number, 0, -1));
        }
        for (int number : new int[] {LEAST, -1, 3, MOST}) {
            Check.refused("31 form " + number, x, BAD, () -> x.sheet(0, number, 1));
            Check.refused("31 form " + number + " ahead of size", x, BAD, () -> x.sheet(0, number, -1));
        }
        refused("31 above 60", x, BAD, () -> x.sheet(0, 0, 61));
        refused("31 above 60", x, BAD, () -> x.sheet(2, 2, MOST));
        refused("31 below 0", x, SIZE, () -> x.sheet(2, 2, -1));
        refused("31 below 0", x, SIZE, () -> x.sheet(0, 1, LEAST));
        refused("31 bad leaves the finding", x, BAD, () -> x.sheet(0, 0, 61));
        Check.refused("31 below 0 of a lost one", x, SIZE, () -> x.sheet(3, 0, -1));
        is("31 it is lost yet", x.lose(3), NULL);
    }

    // ---- promise 32

    private static void loseTellsHowManyThereWere() {
        for (int n = 0; n <= 60; n++) {
            PloughTurns x = new PloughTurns();
            x.sheet(n % 4, n % 3, n);
            is("32 lose", x.lose(n % 4), n);
            is("32 lost", x.lose(n % 4), NULL);
            is("32 lost", x.count(8), 1);
        }
        PloughTurns x = threeSheets();
        is("32 lose one", x.lose(1), 5);
        is("32 the others stay", x.get(0, BYTES, 3), 4);
        is("32 the others stay", x.get(2, INTS, 5), 6);
        is("32 get", x.get(1, SHORTS, 0), LEAST);
        is("32 put", x.put(1, SHORTS, 0, 1), NULL);
        is("32 read", x.read(1), NULL);
        is("32 write", x.write(0, 1), NULL);
        is("32 copy from it", x.copy(1, 0, 1, 0, 0), NULL);
        is("32 sheet", x.sheet(1, INTS, 3), 3);
        is("32 there again", x.lose(1), 3);
    }

    private static void loseRefuses() {
        PloughTurns x = threeSheets();
        for (int number : Check.FAR_OFF) {
            Check.refused("32 lose " + number, x, BAD, () -> x.lose(number));
        }
        refused("32 lose 4", x, BAD, () -> x.lose(4));
        refused("32 lose a lost one", x, NULL, () -> x.lose(3));
        refused("32 bad leaves the finding", x, BAD, () -> x.lose(-1));
    }

    // ---- promise 33

    private static void kept(int form, int v, int due) {
        PloughTurns x = new PloughTurns();
        x.sheet(0, form, 1);
        is("33 put " + v, x.put(0, form, 0, v), 1);
        is("33 kept of " + v, x.get(0, form, 0), due);
    }

    private static void putKeepsTheLowestBits() {
        int[][] bytes = {{0, 0}, {1, 1}, {-1, -1}, {127, 127}, {128, -128}, {129, -127}, {255, -1}, {256, 0}, {257, 1},
            {-128, -128}, {-129, 127}, {-256, 0}, {32767, -1}, {32768, 0}, {LEAST, 0}, {MOST, -1}, {0x12345678, 0x78},
            {0x1234ABCD, 0xCD - 256}};
        for (int[] v : bytes) {
            kept(BYTES, v[0], v[1]);
        }
        int[][] shorts = {{0, 0}, {-1, -1}, {128, 128}, {255, 255}, {32767, 32767}, {32768, -32768}, {32769, -32767},
            {65535, -1}, {65536, 0}, {65537, 1}, {-32768, -32768}, {-32769, 32767}, {-65536, 0}, {LEAST, 0}, {MOST, -1},
            {0x12345678, 0x5678}, {0x1234ABCD, 0xABCD - 65536}};
        for (int[] v : shorts) {
            kept(SHORTS, v[0], v[1]);
        }
        for (int v : new int[] {0, -1, 128, 32768, 65536, -32769, LEAST, LEAST + 1, MOST - 1, MOST, 0x12345678}) {
            kept(INTS, v, v);
        }
    }

    private static void putIntoEachItem() {
        for (int form = BYTES; form <= INTS; form++) {
            PloughTurns x = new PloughTurns();
            x.sheet(3, form, 60);
            for (int i = 0; i < 60; i++) {
                is("33 put", x.put(3, form, i, 100 - i), 1);
            }
            for (int i = 0; i < 60; i++) {
                is("33 item " + i, x.get(3, form, i), 100 - i);
            }
            is("33 put over it", x.put(3, form, 30, -7), 1);
            is("33 the item", x.get(3, form, 30), -7);
            is("33 the one ahead", x.get(3, form, 29), 71);
            is("33 the one behind", x.get(3, form, 31), 69);
        }
    }

    private static void putRefusesInOrder() {
        PloughTurns x = threeSheets();
        refused("33 sheet -1", x, BAD, () -> x.put(-1, 0, 0, 99));
        refused("33 sheet 4", x, BAD, () -> x.put(4, 0, 0, 99));
        refused("33 form -1", x, BAD, () -> x.put(0, -1, 0, 99));
        refused("33 form 3", x, BAD, () -> x.put(0, 3, 0, 99));
        refused("33 index 4", x, INDEX, () -> x.put(0, 0, 4, 99));
        refused("33 index -1", x, INDEX, () -> x.put(0, 0, -1, 99));
        refused("33 bad ahead of index", x, BAD, () -> x.put(0, 3, 4, 99));
        refused("33 cast", x, CAST, () -> x.put(0, 1, 0, 99));
        refused("33 cast", x, CAST, () -> x.put(1, 2, 0, 99));
        refused("33 cast", x, CAST, () -> x.put(2, 0, 0, 99));
        refused("33 cast ahead of index", x, CAST, () -> x.put(2, 0, 6, 99));
        PloughTurns y = threeSheets();
        refused("33 null", y, NULL, () -> y.put(3, 0, 0, 99));
        refused("33 null ahead of index", y, NULL, () -> y.put(3, 2, -1, 99));
        refused("33 bad ahead of null", y, BAD, () -> y.put(3, 3, 0, 99));
        refused("33 index far off", y, INDEX, () -> y.put(2, 2, LEAST, 99));
        refused("33 index far off", y, INDEX, () -> y.put(2, 2, MOST, 99));
        refused("33 sheet far off", y, BAD, () -> y.put(LEAST, MOST, LEAST, MOST));
        y.sheet(3, 1, 0);
        refused("33 no item at all", y, INDEX, () -> y.put(3, 1, 0, 99));
        refused("33 cast of no item", y, CAST, () -> y.put(3, 0, 0, 99));
    }

    // ---- promise 34

    private static void getEachItem() {
        PloughTurns x = threeSheets();
        threeAreAsMade("34 get", x);
        is("34 no finding", x.count(8), 0);
        // An item may be the least int: then nothing was refused.
        x.put(2, INTS, 0, LEAST);
        is("34 the least int itself", x.get(2, INTS, 0), LEAST);
        is("34 no finding", x.count(8), 0);
    }

    private static void getRefused(String call, PloughTurns x, int finding, LongSupplier act) {
        Check.refused(call, x, LEAST, finding, act);
        threeAreAsMade(call, x);
    }

    private static void getRefusesInOrder() {
        PloughTurns x = threeSheets();
        getRefused("34 sheet -1", x, 0, () -> x.get(-1, 0, 0));
        getRefused("34 sheet 4", x, 0, () -> x.get(4, 0, 0));
        getRefused("34 form -1", x, 0, () -> x.get(0, -1, 0));
        getRefused("34 form 3", x, 0, () -> x.get(0, 3, 0));
        getRefused("34 index", x, 2, () -> x.get(0, 0, 4));
        getRefused("34 cast", x, 3, () -> x.get(1, 0, 0));
        getRefused("34 null", x, 1, () -> x.get(3, 0, 0));
        getRefused("34 index below", x, 2, () -> x.get(1, 1, -1));
        getRefused("34 bad ahead of index", x, 2, () -> x.get(1, -1, -1));
        getRefused("34 cast ahead of index", x, 3, () -> x.get(1, 0, 5));
        PloughTurns y = threeSheets();
        getRefused("34 null ahead of index", y, 1, () -> y.get(3, 2, -1));
        getRefused("34 bad ahead of null", y, 1, () -> y.get(3, 3, 0));
        getRefused("34 index far off", y, 2, () -> y.get(2, 2, LEAST));
        getRefused("34 index far off", y, 2, () -> y.get(2, 2, MOST));
        getRefused("34 far off", y, 2, () -> y.get(MOST, LEAST, MOST));
    }

    // ---- promise 35

    private static void copyOfEachSpan() {
        for (int i = 0; i <= 3; i++) {
            for (int j = 0; j <= 4; j++) {
                for (int n = 0; n <= 4; n++) {
                    copySpan(i, j, n);
                }
            }
        }
        PloughTurns x = new PloughTurns();
        x.sheet(0, SHORTS, 60);
        x.sheet(1, SHORTS, 60);
        x.put(0, SHORTS, 0, -7);
        x.put(0, SHORTS, 59, 9);
        is("35 all sixty", x.copy(0, 0, 1, 0, 60), 1);
        is("35 the first", x.get(1, SHORTS, 0), -7);
        is("35 the last", x.get(1, SHORTS, 59), 9);
        is("35 one too many", x.copy(0, 0, 1, 0, 61), INDEX);
    }

    /** From a sheet of 3 to one of 4. */
    private static void copySpan(int i, int j, int n) {
        PloughTurns x = new PloughTurns();
        x.sheet(0, INTS, 3);
        x.sheet(3, INTS, 4);
        Check.putRow(x, 0, INTS, 1, 2, 3);
        Check.putRow(x, 3, INTS, 11, 12, 13, 14);
        boolean fits = i + n <= 3 && j + n <= 4;
        String call = "35 copy " + n + " from " + i + " to " + j;
        is(call, x.copy(0, i, 3, j, n), fits ? 1 : INDEX);
        is(call + ", finding", x.count(8), fits ? 0 : 2);
        for (int k = 0; k < 4; k++) {
            boolean isNew = fits && k >= j && k < j + n;
            is(call + ", item " + k, x.get(3, INTS, k), isNew ? 1 + i + k - j : 11 + k);
        }
        Check.are(call + " leaves its own", Check.row(x, 0, INTS, 3), 1, 2, 3);
    }

    private static void copyWithinASheet() {
        for (int i = 0; i <= 5; i++) {
            for (int j = 0; j <= 5; j++) {
                for (int n = 0; n <= 5; n++) {
                    PloughTurns x = new PloughTurns();
                    x.sheet(2, BYTES, 5);
                    Check.putRow(x, 2, BYTES, 1, 2, 3, 4, 5);
                    boolean fits = i + n <= 5 && j + n <= 5;
                    String call = "35 copy " + n + " within, from " + i + " to " + j;
                    is(call, x.copy(2, i, 2, j, n), fits ? 1 : INDEX);
                    for (int k = 0; k < 5; k++) {
                        boolean isNew = fits && k >= j && k < j + n;
                        is(call + ", item " + k, x.get(2, BYTES, k), isNew ? 1 + i + k - j : 1 + k);
                    }
                }
            }
        }
    }

    private static void copyOfEachForm() {
        int[] values = {LEAST, MOST, -129};
        long[][] due = {{0, -1, 127}, {0, -1, -129}, {LEAST, MOST, -129}};
        for (int form = BYTES; form <= INTS; form++) {
            PloughTurns x = new PloughTurns();
            x.sheet(0, form, 3);
            x.sheet(1, form, 3);
            Check.putRow(x, 0, form, values);
            is("35 copy", x.copy(0, 0, 1, 0, 3), 1);
            Check.are("35 copied", Check.row(x, 1, form, 3), due[form]);
            x.put(0, form, 0, 5);
            is("35 a row of its own", x.get(1, form, 0), due[form][0]);
        }
    }

    private static void copyRefusesSpans() {
        PloughTurns x = new PloughTurns();
        x.sheet(0, INTS, 3);
        x.sheet(1, INTS, 0);
        x.put(0, INTS, 1, 8);
        is("35 none of none", x.copy(1, 0, 1, 0, 0), 1);
        is("35 none at the ends", x.copy(0, 3, 1, 0, 0), 1);
        is("35 no finding", x.count(8), 0);
        int[][] spans = {{-1, 0, 0}, {0, -1, 0}, {0, 0, -1}, {-1, 0, 1}, {4, 0, 0}, {0, 4, 0}, {3, 0, 1}, {0, 3, 1},
            {4, 0, -1}, {0, 0, 4}, {1, 1, 3}, {LEAST, 0, 0}, {0, LEAST, 0}, {0, 0, LEAST}, {MOST, 0, 0}, {0, MOST, 0},
            {0, 0, MOST}, {1, 1, MOST}, {MOST, MOST, MOST}, {MOST, 0, 1}, {2, MOST, 1}, {LEAST, LEAST, LEAST},
            {MOST, 0, LEAST}, {1, LEAST, MOST}, {-1, -1, 1}, {-1, -1, 2}, {2, 2, -1}, {4, 4, -1}};
        for (int[] a : spans) {
            Check.refused("35 copy " + a[2] + " from " + a[0] + " to " + a[1], x, INDEX,
                () -> x.copy(0, a[0], 0, a[1], a[2]));
        }
        Check.are("35 all stay", Check.row(x, 0, INTS, 3), 0, 8, 0);
        is("35 none behind the end of none", x.copy(0, 0, 1, 1, 0), INDEX);
        is("35 none behind the end of none", x.copy(1, 1, 0, 0, 0), INDEX);
        is("35 one into none", x.copy(0, 0, 1, 0, 1), INDEX);
    }

    private static void copyRefusesInOrder() {
        PloughTurns x = threeSheets();
        for (int number : new int[] {LEAST, -1, 4, MOST}) {
            Check.refused("35 from sheet " + number, x, BAD, () -> x.copy(number, 0, 0, 0, 1));
            Check.refused("35 to sheet " + number, x, BAD, () -> x.copy(0, 0, number, 0, 1));
            Check.refused("35 bad ahead of null", x, BAD, () -> x.copy(3, 0, number, 0, 1));
            Check.refused("35 bad ahead of null", x, BAD, () -> x.copy(number, -1, 3, 0, 1));
        }
        refused("35 null from", x, NULL, () -> x.copy(3, 0, 0, 0, 1));
        refused("35 null to", x, NULL, () -> x.copy(0, 0, 3, 0, 1));
        PloughTurns y = threeSheets();
        refused("35 null ahead of index", y, NULL, () -> y.copy(3, -1, 3, 9, -1));
        refused("35 store", y, STORE, () -> y.copy(0, 0, 1, 0, 1));
        refused("35 store", y, STORE, () -> y.copy(1, 0, 2, 0, 1));
        refused("35 store of none", y, STORE, () -> y.copy(2, 0, 0, 0, 0));
        refused("35 store ahead of index", y, STORE, () -> y.copy(2, -1, 1, 0, 1));
        refused("35 null ahead of store", y, NULL, () -> y.copy(1, 0, 3, 0, 1));
        refused("35 index", y, INDEX, () -> y.copy(1, 0, 1, 0, 6));
    }

    // ---- promise 36

    private static void writeAsManyAsThereAre() {
        for (int form = BYTES; form <= INTS; form++) {
            for (int n : new int[] {0, 1, 2, 23, 24, 25, 60}) {
                PloughTurns x = Check.made("c009;r101", "1c2");
                x.sheet(3, form, n);
                for (int i = 0; i < n; i++) {
                    x.put(3, form, i, -1);
                }
                is("36 write to " + n, x.write(1, 3), Math.min(24, n));
                for (int i = 0; i < n; i++) {
                    int due = i >= 24 ? -1 : i < 2 ? 0 : Math.min(9, i);
                    is("36 item " + i + " of " + n, x.get(3, form, i), due);
                }
                is("36 no finding", x.count(8), 0);
                is("36 as many as there were", x.lose(3), n);
            }
        }
    }

    private static void writeFromNoneToSeventyTwo() {
        PloughTurns x = Check.made("c009;r101", "0a9;0a9;0a9;0a9;0a9;0a9;0a9;0a9");
        x.sheet(0, BYTES, 24);
        x.write(0, 0);
        is("36 by eight", x.get(0, BYTES, 0), 72);
        is("36 by eight", x.get(0, BYTES, 23), 72);
        is("36 of who is not wanted", x.write(1, 0), 24);
        is("36 of who is not wanted", x.get(0, BYTES, 0), 0);
        is("36 of who is not wanted", x.get(0, BYTES, 23), 0);
        // Yet: behind the events of the night.
        PloughTurns y = Check.made("d001", "0a1;0d3", 0, 2, 0);
        y.sheet(1, INTS, 6);
        is("36 write", y.write(0, 1), 6);
        Check.are("36 wanted yet", Check.row(y, 1, INTS, 6), 1, 2, 0, 3, 4, 5);
        is("36 of no needs", Check.made("d001", "").write(0, 1), NULL);
    }

    private static void writeRefusesBadAheadOfNull() {
        PloughTurns x = threeSheets();
        for (int number : new int[] {LEAST, -1, 4, MOST}) {
            Check.refused("36 one " + number, x, BAD, () -> x.write(number, 0));
            Check.refused("36 sheet " + number, x, BAD, () -> x.write(0, number));
            Check.refused("36 bad ahead of null", x, BAD, () -> x.write(number, 3));
        }
        refused("36 null", x, NULL, () -> x.write(3, 3));
        refused("36 bad leaves the finding", x, BAD, () -> x.write(4, 3));
        PloughTurns none = new PloughTurns();
        none.sheet(0, 0, 3);
        is("36 nobody", none.write(0, 0), BAD);
        PloughTurns faulty = Check.made("r001;", "0a1");
        is("36 nobody of a faulty text, ahead of null", faulty.write(0, 0), BAD);
    }

    // ---- promise 37

    private static void countFromNoneToFull() {
        PloughTurns x = new PloughTurns();
        Check.enter(x, 0, "r001;r101;r201;r301;r401;r501;r011;r111");
        Check.enter(x, 1, "0a1;1a1;2a1;3a1;4a1;5a1;6a1;7a1");
        int[] texts = {8, 8, 39, 31, 0, 0, 0, 0, 0};
        for (int what = 0; what <= 8; what++) {
            is("37 of full texts", x.count(what), texts[what]);
        }
        for (int n = 0; n < 8; n++) {
            x.event(0, n, n < 6 ? 0 : 1);
            x.seen(n, n, 1);
        }
        int[] full = {8, 8, 39, 31, 8, 8, 0, 8, 0};
        for (int what = 0; what <= 8; what++) {
            is("37 of all that is full", x.count(what), full[what]);
        }
        x.type(1, ';');
        x.undo(1);
        int[] faulty = {8, 0, 39, 30, 8, 0, 8, 8, 0};
        for (int what = 0; what <= 8; what++) {
            is("37 of a faulty text", x.count(what), faulty[what]);
        }
        is("37 wiped", x.wipe(0), 39);
        int[] wiped = {0, 0, 0, 30, 8, 0, 0, 8, 0};
        for (int what = 0; what <= 8; what++) {
            is("37 of an empty text", x.count(what), wiped[what]);
        }
    }

    private static void countOfTheLatestFinding() {
        PloughTurns x = threeSheets();
        is("37 before any", x.count(8), 0);
        x.sheet(0, 0, -1);
        is("37 size", x.count(8), 5);
        x.copy(0, 0, 1, 0, 1);
        is("37 store", x.count(8), 4);
        x.put(0, 1, 0, 0);
        is("37 cast", x.count(8), 3);
        x.get(0, 0, 4);
        is("37 index", x.count(8), 2);
        x.read(3);
        is("37 null", x.count(8), 1);
        x.put(0, 0, 4, 0);
        is("37 index", x.count(8), 2);
        // What is no finding leaves the latest one.
        x.wipe(7);
        x.undo(1);
        x.event(2, 0, 0);
        new PloughTurns().back();
        x.get(9, 0, 0);
        x.chance(17, 0, 0);
        x.put(0, 0, 0, 1);
        x.sheet(0, 0, 61);
        x.count(9);
        x.digest();
        is("37 the latest stays", x.count(8), 2);
    }

    /** Every call that is not refused, one by one: the latest finding, of before all, stays. */
    private static void countOfAFindingLongAgo() {
        PloughTurns x = year();
        x.sheet(3, INTS, -1);
        LongSupplier[] calls = {() -> x.type(0, ';'), () -> x.undo(0), () -> x.fault(0), () -> x.gone(0, 0),
            () -> x.need(0, 0), () -> x.event(0, 5, 0), x::back, () -> x.sheet(0, INTS, 30), () -> x.sheet(1, INTS, 0),
            () -> x.read(1), () -> x.at(0, 0, 0), () -> x.field(0, 0, 0), () -> x.up(0, 0), () -> x.met(0),
            () -> x.stood(0), x::wrongly, () -> x.first(0), x::gate, x::rest, () -> x.plough(0, 0), () -> x.lie(0, 0),
            () -> x.when(0, 0), () -> x.spare(0), () -> x.seen(0, 0, 0), x::forget, x::never, () -> x.was(0, 0),
            () -> x.ask(0), () -> x.chance(5, 0, 0), () -> x.years(7, 6, 0), () -> x.put(0, INTS, 29, 1),
            () -> x.get(0, INTS, 29), () -> x.copy(0, 29, 0, 0, 1), () -> x.copy(0, 0, 1, 0, 0), () -> x.write(0, 0),
            () -> x.read(0), () -> x.count(0), () -> x.count(8), () -> x.lose(1), () -> x.wipe(1)};
        for (int k = 0; k < calls.length; k++) {
            Check.holds("37 call " + k + " is not refused", calls[k].getAsLong() >= NONE);
            is("37 the finding behind call " + k, x.count(8), 5);
        }
        x.digest();
        is("37 the finding behind digest()", x.count(8), 5);
    }

    private static void countRefusesBad() {
        PloughTurns x = year();
        for (int number : Check.FAR_OFF) {
            Check.refused("37 count " + number, x, BAD, () -> x.count(number));
        }
        is("37 count 9", x.count(9), BAD);
    }

    // ---- promise 38

    private static void digestIsTold(String what, PloughTurns x) {
        long digest = x.digest();
        is("38 digest of " + what, digest, PromiseTests.digestOf(x));
        is("38 digest again of " + what, x.digest(), digest);
    }

    private static void digestOfNothing() {
        // 8 counts and 2 faults; 24 nights by 2, 6 furrows by 2; then 11 more.
        long[] told = new long[81];
        told[8] = NONE;
        told[9] = NONE;
        int last = 10 + 48 + 12;
        told[last] = NONE;
        told[last + 1] = NONE;
        told[last + 2] = NONE;
        told[last + 7] = NONE;
        long h = 17;
        for (long v : told) {
            h = 31 * h + v;
        }
        is("38 digest of nothing", new PloughTurns().digest(), h);
        digestIsTold("nothing", new PloughTurns());
    }

    private static void digestOfEdges() {
        digestIsTold("faulty texts", Check.made("d001;", "0a"));
        digestIsTold("the gone alone", Check.made(Check.FULL_GONE, ""));
        digestIsTold("the needs alone", Check.made("", Check.FULL_NEEDS));
        digestIsTold("full texts", Check.made(Check.FULL_GONE, Check.FULL_NEEDS, 0, 0, 0));
        digestIsTold("more than two to spare", Check.made("r001;r011;r021", "", 0, 0, 0, 0, 0, 1, 0, 0, 2));
        digestIsTold("two to spare", Check.made("r001;r011", "", 0, 0, 0, 0, 23, 1));
        digestIsTold("eight events", Check.made("r001;c109", "0a1;1x9",
            0, 0, 0, 1, 1, 0, 0, 6, 0, 1, 7, 0, 0, 8, 0, 1, 14, 0, 0, 15, 0, 0, 23, 0));
        // Of seed 7 the seventh event is a plough of furrow 2: six and seven are unlike.
        PloughTurns met = Check.made("r021;r121;r221", "2a1");
        is("38 six are met unlike seven", met.years(7, 7, 0) - met.years(7, 6, 0), 1);
        digestIsTold("six events of seed 7", met);
        PloughTurns wrong = Check.made("r021;r121;r221", "");
        is("38 six come wrongly unlike seven", wrong.years(7, 7, 1) - wrong.years(7, 6, 1), 1);
        digestIsTold("six events of seed 7", wrong);
        PloughTurns x = year();
        for (int n = 0; n < 8; n++) {
            x.seen(n, 0, n < 4 ? 0 : 1);
        }
        digestIsTold("eight seen", x);
        x.forget();
        x.seen(0, 7, 0);
        digestIsTold("one that is not there", x);
    }

    private static void digestTellsWhatChanges() {
        PloughTurns x = year();
        long before = x.digest();
        x.sheet(0, 2, 24);
        x.write(0, 0);
        x.copy(0, 0, 0, 1, 5);
        x.get(3, 0, 0);
        x.lose(0);
        is("38 not of sheets and findings", x.digest(), before);
        x.type(0, ';');
        Check.holds("38 of a byte of the gone", x.digest() != before);
        x.undo(0);
        is("38 undone", x.digest(), before);
        x.type(1, ';');
        Check.holds("38 of a byte of the needs", x.digest() != before);
        x.undo(1);
        is("38 undone", x.digest(), before);
        x.event(1, 23, 5);
        Check.holds("38 of an event that does nothing", x.digest() != before);
        x.back();
        is("38 undone", x.digest(), before);
        x.seen(4, 0, 1);
        Check.holds("38 of what was seen", x.digest() != before);
        x.forget();
        is("38 undone", x.digest(), before);
    }
}
