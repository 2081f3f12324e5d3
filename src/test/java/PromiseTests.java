/** The promises 1 to 38, one by one, with answers worked out by hand from the document. */
public final class PromiseTests {
    private static final int NONE = -1, BAD = -2, NOT = -3, FULL = -4;
    private static final int NULL = -11, INDEX = -12, CAST = -13, STORE = -14, SIZE = -15;
    private static final int LEAST = Integer.MIN_VALUE, MOST = Integer.MAX_VALUE;
    private static final String FULL_GONE = Check.FULL_GONE, FULL_NEEDS = Check.FULL_NEEDS;

    private PromiseTests() {
    }

    public static void main(String[] args) {
        constants();
        newObject();
        type();
        wipe();
        undo();
        faultOfGone();
        faultOfNeeds();
        gone();
        need();
        event();
        back();
        read();
        at();
        pullOfSorts();
        eventsInOrder();
        upAlready();
        field();
        up();
        met();
        stood();
        wrongly();
        first();
        gate();
        rest();
        plough();
        lie();
        when();
        spare();
        seen();
        forget();
        never();
        was();
        ask();
        chance();
        years();
        sheet();
        lose();
        put();
        get();
        copy();
        write();
        count();
        digest();
        Check.close();
    }

    private static void is(String call, long got, long due) {
        Check.is(call, got, due);
    }

    private static void are(String calls, long[] got, long... due) {
        Check.are(calls, got, due);
    }

    /**
     * A year that most promises are looked at in. Night 0, furrow 0: the Roman (2), whom nobody
     * wants, for 0 falls short by 1 and 1 by 3. Night 2: 1 (5 less 3) ahead of 0 (3 less 2), then 3 in
     * furrow 1. Night 4: 1 and 2 are harrowed in, and 0 comes with 5 and 9 less 2.
     */
    private static PloughTurns year() {
        return Check.made("d005;c103;r201;d014", "0a1;1c5;0d9;3b2",
            0, 0, 0, 0, 2, 0, 0, 2, 1, 1, 4, 0, 0, 4, 0);
    }

    private static void constants() {
        is("NONE", PloughTurns.NONE, -1);
        is("BAD", PloughTurns.BAD, -2);
        is("NOT", PloughTurns.NOT, -3);
        is("FULL", PloughTurns.FULL, -4);
    }

    private static void newObject() {
        PloughTurns x = new PloughTurns();
        for (int what = 0; what <= 8; what++) {
            is("1 count", x.count(what), 0);
        }
        is("1 fault", x.fault(0), NONE);
        is("1 fault", x.fault(1), NONE);
        is("1 gone", x.gone(0, 0), BAD);
        is("1 need", x.need(0, 0), BAD);
        is("1 back", x.back(), NOT);
        for (int s = 0; s < 4; s++) {
            is("1 lose", x.lose(s), NULL);
        }
        year().sheet(0, 0, 3);
        is("1 another object", new PloughTurns().lose(0), NULL);
    }

    private static void type() {
        PloughTurns x = new PloughTurns();
        is("2 type", x.type(-1, 100), BAD);
        is("2 type", x.type(2, 100), BAD);
        is("2 type", x.type(0, -1), BAD);
        is("2 type", x.type(0, 256), BAD);
        is("2 count", x.count(2), 0);
        is("2 type", x.type(0, 0), 1);
        is("2 type", x.type(0, 255), 2);
        is("2 type", x.type(1, 48), 1);
        for (int n = 3; n <= 39; n++) {
            is("2 type", x.type(0, 100), n);
        }
        is("2 type 40", x.type(0, 100), FULL);
        is("2 bad ahead of full", x.type(0, 256), BAD);
        for (int n = 2; n <= 31; n++) {
            is("2 type", x.type(1, 100), n);
        }
        is("2 type 32", x.type(1, 100), FULL);
        is("2 count", x.count(2), 39);
        is("2 count", x.count(3), 31);
        PloughTurns full = Check.made(FULL_GONE, FULL_NEEDS);
        is("2 eight of the gone", full.count(0), 8);
        is("2 eight needs", full.count(1), 8);
    }

    private static void wipe() {
        PloughTurns x = year();
        is("3 wipe", x.wipe(-1), BAD);
        is("3 wipe", x.wipe(2), BAD);
        is("3 wipe", x.wipe(0), 19);
        is("3 wipe again", x.wipe(0), 0);
        is("3 count", x.count(0), 0);
        is("3 count", x.count(2), 0);
        is("3 other text", x.count(3), 15);
        is("3 nobody comes", x.wrongly(), 0);
        is("3 wipe", x.wipe(1), 15);
        is("3 count", x.count(1), 0);
        is("3 events stay", x.count(4), 5);
    }

    private static void undo() {
        PloughTurns x = new PloughTurns();
        is("4 undo", x.undo(0), NOT);
        is("4 undo", x.undo(1), NOT);
        is("4 undo", x.undo(-1), BAD);
        is("4 undo", x.undo(2), BAD);
        Check.enter(x, 0, "d001x");
        is("4 fault", x.fault(0), 4);
        is("4 undo", x.undo(0), 4);
        is("4 fault mended", x.fault(0), NONE);
        is("4 there again", x.count(0), 1);
        is("4 undo", x.undo(0), 3);
        is("4 gone again", x.count(0), 0);
        Check.enter(x, 1, "0a");
        is("4 undo", x.undo(1), 1);
        is("4 undo", x.undo(1), 0);
        is("4 undo", x.undo(1), NOT);
        is("4 count", x.count(2), 3);
    }

    private static void faultIs(int text, String bytes, int due) {
        PloughTurns x = new PloughTurns();
        Check.enter(x, text, bytes);
        is("5 fault of " + bytes, x.fault(text), due);
        is("5 other text", x.fault(1 - text), NONE);
        int things = due == NONE && !bytes.isEmpty() ? bytes.split(";").length : 0;
        is("5 told by " + bytes, x.count(text), things);
    }

    private static void faultOfGone() {
        faultIs(0, "", NONE);
        faultIs(0, "d001", NONE);
        faultIs(0, "c559", NONE);
        faultIs(0, "r001;r101", NONE);
        faultIs(0, FULL_GONE, NONE);
        faultIs(0, "D", 0);
        faultIs(0, ";", 0);
        faultIs(0, "e001", 0);
        faultIs(0, "d6", 1);
        faultIs(0, "d/", 1);
        faultIs(0, "d06", 2);
        faultIs(0, "d0/1", 2);
        faultIs(0, "d000", 3);
        faultIs(0, "d00:", 3);
        faultIs(0, "d001d", 4);
        faultIs(0, "d001;;", 5);
        faultIs(0, "d", 1);
        faultIs(0, "d0", 2);
        faultIs(0, "d00", 3);
        faultIs(0, "d001;", 5);
        faultIs(0, "d001;c", 6);
        faultIs(0, "d001;c105;r200;x", 13);
        faultIs(0, "d121;c215", NONE);
        faultIs(0, "d121;c12", 7);
        faultIs(0, "d121;c122;x", 7);
        faultIs(0, "d001;c101;r012;d109", 17);
        PloughTurns x = new PloughTurns();
        is("5 fault", x.fault(-1), BAD);
        is("5 fault", x.fault(2), BAD);
        is("5 bytes stay", faulty().count(2), 6);
        is("5 as if empty", faulty().gone(0, 0), BAD);
    }

    private static PloughTurns faulty() {
        return Check.made("d001;x", "");
    }

    private static void faultOfNeeds() {
        faultIs(1, "", NONE);
        faultIs(1, "0a1", NONE);
        faultIs(1, "7x9;7x9", NONE);
        faultIs(1, FULL_NEEDS, NONE);
        faultIs(1, "8", 0);
        faultIs(1, "/", 0);
        faultIs(1, "0`1", 1);
        faultIs(1, "0y", 1);
        faultIs(1, "0A", 1);
        faultIs(1, "0a0", 2);
        faultIs(1, "0a:", 2);
        faultIs(1, "0a1,", 3);
        faultIs(1, "0a12", 3);
        faultIs(1, "0", 1);
        faultIs(1, "0a", 2);
        faultIs(1, "0a1;", 4);
        faultIs(1, "0a1;1b2;2", 9);
    }

    private static void gone() {
        PloughTurns x = Check.made("d129;c051;r503", "");
        int[][] due = {{0, 1, 2, 9}, {1, 0, 5, 1}, {2, 5, 0, 3}};
        for (int one = 0; one < 3; one++) {
            for (int what = 0; what < 4; what++) {
                is("6 gone", x.gone(one, what), due[one][what]);
            }
        }
        is("6 gone", x.gone(3, 0), BAD);
        is("6 gone", x.gone(-1, 0), BAD);
        is("6 gone", x.gone(0, 4), BAD);
        is("6 gone", x.gone(0, -1), BAD);
        is("6 gone", x.gone(LEAST, MOST), BAD);
        is("6 the eighth", Check.made(FULL_GONE, "").gone(7, 3), 9);
        is("6 no ninth", Check.made(FULL_GONE, "").gone(8, 3), BAD);
    }

    private static void need() {
        PloughTurns x = Check.made("", "7a1;0x9");
        int[][] due = {{7, 0, 1}, {0, 23, 9}};
        for (int need = 0; need < 2; need++) {
            for (int what = 0; what < 3; what++) {
                is("7 need", x.need(need, what), due[need][what]);
            }
        }
        is("7 need", x.need(2, 0), BAD);
        is("7 need", x.need(-1, 0), BAD);
        is("7 need", x.need(0, 3), BAD);
        is("7 need", x.need(0, -1), BAD);
        is("7 need", x.need(MOST, LEAST), BAD);
        is("7 no ninth", Check.made("", FULL_NEEDS).need(8, 0), BAD);
    }

    private static void event() {
        PloughTurns x = new PloughTurns();
        int[][] bad = {{-1, 0, 0}, {2, 0, 0}, {0, -1, 0}, {0, 24, 0}, {0, 0, -1}, {0, 0, 6}, {LEAST, MOST, LEAST}};
        for (int[] e : bad) {
            is("8 event", x.event(e[0], e[1], e[2]), BAD);
        }
        is("8 count", x.count(4), 0);
        for (int n = 1; n <= 8; n++) {
            is("8 event", x.event(n % 2, 23, 5), n);
        }
        is("8 event", x.event(0, 0, 0), FULL);
        is("8 bad ahead of full", x.event(0, 24, 0), BAD);
        is("8 count", x.count(4), 8);
    }

    private static void back() {
        PloughTurns x = year();
        is("9 back", x.back(), 4);
        is("9 met", x.met(0), NONE);
        is("9 back", x.back(), 3);
        is("9 stands on", x.stood(1), 22);
        is("9 event", x.event(1, 5, 0), 4);
        is("9 stands to 4", x.stood(1), 3);
        for (int left = 3; left >= 0; left--) {
            is("9 back", x.back(), left);
        }
        is("9 back", x.back(), NOT);
        is("9 nobody came", x.first(0), NONE);
        // The last by its number goes, not the last by its night.
        PloughTurns y = Check.made("r001", "", 0, 9, 0, 1, 12, 0, 0, 3, 0);
        is("9 stood", y.stood(0), 9);
        is("9 back", y.back(), 2);
        is("9 stood", y.stood(0), 3);
        is("9 first", y.first(0), 9);
    }

    private static void read() {
        PloughTurns x = new PloughTurns();
        Check.enter(x, 0, "r001");
        is("10 read", x.read(-1), BAD);
        is("10 read", x.read(4), BAD);
        is("10 read", x.read(3), NULL);
        is("10 finding", x.count(8), 1);
        x.sheet(3, 2, 0);
        is("10 read none", x.read(3), 0);
        x.sheet(3, 2, 8);
        Check.putRow(x, 3, 2, 0, 7, 0, 1, 9, 0, 0, 3);
        is("10 whole ones", x.read(3), 2);
        is("10 count", x.count(4), 2);
        is("10 stood", x.stood(0), 2);
        is("10 behind those there", x.read(3), 2);
        is("10 count", x.count(4), 4);
        Check.putRow(x, 3, 2, 0, 1, 1, 0, 24, 0);
        is("10 up to a refused one", x.read(3), 1);
        is("10 count", x.count(4), 5);
        x.sheet(0, 0, 60);
        is("10 up to full", x.read(0), 3);
        is("10 count", x.count(4), 8);
        is("10 full", x.read(0), 0);
        is("10 sheet stays", x.get(3, 2, 4), 24);
        PloughTurns y = new PloughTurns();
        y.sheet(2, 0, 3);
        is("10 three items are one", y.read(2), 1);
        y.sheet(2, 0, 2);
        is("10 two are none", y.read(2), 0);
        x.sheet(1, 1, 3);
        Check.putRow(x, 1, 1, 2, 0, 0);
        x.back();
        is("10 refused at once", x.read(1), 0);
    }

    private static void at() {
        PloughTurns x = year();
        are("11 up 0", Check.nights(x, 0, 0, 5), 0, 0, 0, 0, 1, 1);
        are("11 up 1", Check.nights(x, 1, 0, 5), 0, 0, 1, 1, 0, 0);
        are("11 up 2", Check.nights(x, 2, 0, 5), 1, 1, 1, 1, 0, 0);
        are("11 up 3", Check.nights(x, 3, 0, 5), 0, 0, 1, 1, 1, 1);
        are("11 wanted 0", Check.nights(x, 0, 1, 5), 1, 2, 3, 13, 0, 0);
        are("11 wanted 1", Check.nights(x, 1, 1, 5), 0, 0, 0, 0, 0, 0);
        are("11 wanted 3", Check.nights(x, 3, 1, 3), 0, 2, 0, 0);
        are("11 times 2", Check.nights(x, 2, 2, 5), 1, 1, 1, 1, 1, 1);
        are("11 times 1", Check.nights(x, 1, 2, 5), 0, 0, 1, 1, 1, 1);
        PloughTurns y = Check.made("d009", "0b5;0d1;0x9");
        are("11 nine at most each", Check.nights(y, 0, 1, 13), 0, 5, 6, 8, 10, 12, 13, 14, 15, 16, 17, 18, 18, 18);
        is("11 wanted by three", y.at(23, 0, 1), 27);
        PloughTurns z = Check.made("r001", "", 0, 0, 0, 1, 1, 0, 0, 1, 0, 1, 1, 0, 0, 3, 0);
        are("11 often", Check.nights(z, 0, 2, 4), 1, 2, 2, 3, 3);
        int[][] bad = {{-1, 0, 0}, {24, 0, 0}, {0, -1, 0}, {0, 4, 0}, {0, 0, -1}, {0, 0, 3}, {MOST, LEAST, MOST}};
        for (int[] b : bad) {
            is("11 at", x.at(b[0], b[1], b[2]), BAD);
        }
        is("11 nobody", new PloughTurns().at(0, 0, 0), BAD);
    }

    /** Who comes of two in furrow 0 by a plough on night 0. */
    private static int comes(String gone, String needs) {
        return Check.made(gone, needs, 0, 0, 0).first(1);
    }

    private static void pullOfSorts() {
        is("dead, half of 9 is 4", comes("d009", "0a4"), 0);
        is("dead, 3 is too little", comes("d009", "0a3"), NONE);
        is("dead, half of 8 is 4", comes("d008", "0a4"), 0);
        is("dead, half of 1 is 0", comes("d001", ""), 0);
        is("dead, half of 2 is 1", comes("d002", ""), NONE);
        is("Canada, all of 9", comes("c009", "0a9"), 0);
        is("Canada, 8 is too little", comes("c009", "0a8"), NONE);
        is("Canada, 1", comes("c001", ""), NONE);
        is("Roman, from ever so far", comes("r009", ""), 0);
        is("Roman, however wanted", comes("r101;d001", "0a9;1a1"), 1);
        is("most pull", comes("d001;c104", "0a2;1a7"), 1);
        is("like ones: less x", comes("d301;c104;d509", "0a3;1a7;2a7"), 1);
        is("like ones: less x, not less number", comes("d501;d001", "0a1;1a1"), 1);
        is("needs together", comes("c105;d001", "0a3;0a3;1a1"), 1);
        is("needs together", comes("c105;d001", "0a3;0a4;1a1"), 0);
        is("another furrow", comes("d011", "0a9"), NONE);
        is("a need of later", comes("c001", "0b9"), NONE);
        is("nobody there", comes("", "0a9"), NONE);
        // A Roman who came twice pulls by 2: one of the dead by as much comes if of less x.
        int[] twice = {0, 0, 0, 1, 0, 0, 0, 1, 0, 1, 1, 0, 0, 2, 0};
        is("Roman by 2, of more x", Check.made("r101;d001", "1c2", twice).at(2, 1, 0), 1);
        is("Roman by 2, of less x", Check.made("r001;d101", "1c2", twice).at(2, 0, 0), 1);
        is("Roman by 2, less than 3", Check.made("r001;d101", "1c3", twice).at(2, 1, 0), 1);
        // Each night that a need waits pulls by 1 more.
        is("waited not long enough", Check.made("c007", "0a1", 0, 5, 0).met(0), NONE);
        is("waited long enough", Check.made("c007", "0a1", 0, 6, 0).met(0), 6);
    }

    private static void eventsInOrder() {
        // On one night the harrow is first by its number, then last.
        is("harrow first", Check.made("r001", "", 1, 5, 0, 0, 5, 0).stood(0), 19);
        is("harrow last", Check.made("r001", "", 0, 5, 0, 1, 5, 0).stood(0), 0);
        is("harrow another furrow", Check.made("r001", "", 0, 5, 0, 1, 5, 1).stood(0), 19);
        is("a night ahead told later", Check.made("r001", "", 1, 9, 0, 0, 5, 0).stood(0), 4);
        is("a later night told first", Check.made("r001;d101", "1d5", 0, 7, 0, 0, 2, 0).met(0), 7);
        // One plough brings one.
        PloughTurns x = Check.made("r001;r101", "", 0, 0, 0);
        is("one by a plough", x.up(0, 0), 1);
        x.event(0, 0, 0);
        is("two by two", x.up(0, 0), 2);
        x.event(0, 0, 0);
        is("nobody is left", x.up(0, 0), 2);
        is("two came", x.wrongly(), 2);
        x.event(1, 1, 0);
        is("all are harrowed in", x.up(1, 0), 0);
    }

    private static void upAlready() {
        // Who is up when the need opens meets it only when coming again.
        PloughTurns x = Check.made("d001", "0c4", 0, 0, 0, 0, 3, 0);
        is("up already", x.met(0), NONE);
        is("wanted yet", x.at(3, 0, 1), 5);
        is("once", x.at(23, 0, 2), 1);
        x.event(1, 5, 0);
        x.event(0, 6, 0);
        is("come again", x.met(0), 6);
        is("come once wrongly", x.wrongly(), 1);
        // A need met stays met, and the next of the same one stays open.
        PloughTurns y = Check.made("d001", "0a1;0e1", 0, 0, 0);
        is("met", y.met(0), 0);
        is("open", y.met(1), NONE);
    }

    private static void field() {
        PloughTurns x = year();
        is("12 field", x.field(0, 2, 0), 2);
        is("12 field", x.field(0, 0, 0), NONE);
        is("12 field", x.field(2, 1, 0), 1);
        is("12 field", x.field(2, 0, 1), 3);
        is("12 field", x.field(1, 0, 1), NONE);
        is("12 field", x.field(3, 2, 0), 2);
        is("12 field", x.field(4, 2, 0), NONE);
        is("12 field", x.field(4, 0, 0), 0);
        is("12 field", x.field(23, 5, 5), NONE);
        int[][] bad = {{-1, 0, 0}, {24, 0, 0}, {0, -1, 0}, {0, 6, 0}, {0, 0, -1}, {0, 0, 6}};
        for (int[] b : bad) {
            is("12 field", x.field(b[0], b[1], b[2]), BAD);
        }
    }

    private static void up() {
        PloughTurns x = year();
        int[] up = {1, 1, 3, 3, 2, 2};
        int[] open = {1, 2, 1, 2, 0, 0};
        for (int night = 0; night < 6; night++) {
            is("13 up", x.up(night, 0), up[night]);
            is("13 open", x.up(night, 1), open[night]);
        }
        is("13 up", x.up(23, 0), 2);
        is("13 of one who is not there", Check.made("", "7d1").up(3, 1), 1);
        is("13 not yet", Check.made("", "7d1").up(2, 1), 0);
        is("13 up", x.up(-1, 0), BAD);
        is("13 up", x.up(24, 0), BAD);
        is("13 up", x.up(0, -1), BAD);
        is("13 up", x.up(0, 2), BAD);
    }

    private static void met() {
        PloughTurns x = year();
        int[] due = {4, 2, 4, 2};
        for (int need = 0; need < 4; need++) {
            is("14 met", x.met(need), due[need]);
        }
        is("14 met", x.met(4), BAD);
        is("14 met", x.met(-1), BAD);
        is("14 met", x.met(LEAST), BAD);
        is("14 nobody there", Check.made("d001", "1a9", 0, 1, 0).met(0), NONE);
        is("14 on the last night", Check.made("d001", "0x9", 0, 23, 0).met(0), 23);
        is("14 on the first", Check.made("d001", "0a9", 0, 0, 0).met(0), 0);
    }

    private static void stood() {
        PloughTurns x = year();
        int[] due = {20, 2, 4, 22};
        for (int one = 0; one < 4; one++) {
            is("15 stood", x.stood(one), due[one]);
        }
        is("15 stood", x.stood(4), BAD);
        is("15 stood", x.stood(-1), BAD);
        is("15 every night", Check.made("r001", "", 0, 0, 0).stood(0), 24);
        is("15 the last night", Check.made("r001", "", 0, 23, 0).stood(0), 1);
        is("15 twice", Check.made("r001", "", 0, 2, 0, 1, 4, 0, 0, 20, 0).stood(0), 6);
    }

    private static void wrongly() {
        is("16 wrongly", year().wrongly(), 1);
        is("16 wrongly", new PloughTurns().wrongly(), 0);
        is("16 each time", Check.made("r001", "", 0, 2, 0, 1, 4, 0, 0, 20, 0).wrongly(), 2);
        is("16 wanted in time", Check.made("r001", "0c1", 0, 2, 0).wrongly(), 0);
        is("16 not wanted yet", Check.made("r001", "0d1", 0, 2, 0).wrongly(), 1);
        is("16 not wanted any more", Check.made("r001", "0a1", 0, 2, 0, 1, 3, 0, 0, 4, 0).wrongly(), 1);
    }

    private static void first() {
        is("17 first", year().first(0), 0);
        is("17 first", year().first(1), 2);
        is("17 first", year().first(-1), BAD);
        is("17 first", year().first(2), BAD);
        is("17 nobody", new PloughTurns().first(0), NONE);
        is("17 nobody", new PloughTurns().first(1), NONE);
        PloughTurns x = Check.made("r001;r011", "", 0, 9, 0, 0, 4, 3, 0, 6, 1, 0, 6, 0);
        is("17 a night on which one comes", x.first(0), 6);
        is("17 the first one on it", x.first(1), 1);
        is("17 harrowed the same night", Check.made("r001", "", 0, 3, 0, 1, 3, 0).first(0), 3);
    }

    private static void gate() {
        is("18 like ones", year().gate(), 0);
        is("18 nobody", new PloughTurns().gate(), NONE);
        is("18 nobody came", Check.made("c001", "", 0, 0, 0).gate(), NONE);
        is("18 most often", Check.made("d011;r001", "0a9", 0, 0, 1, 0, 0, 0, 1, 1, 0, 0, 2, 0).gate(), 1);
        is("18 the least of like ones", Check.made("c209;r001;r011", "", 0, 0, 1, 0, 0, 0).gate(), 1);
    }

    private static void rest() {
        is("19 rest", year().rest(), 0);
        is("19 nobody", new PloughTurns().rest(), 0);
        is("19 rest", Check.made("d009;r101;c201", "", 0, 0, 0, 1, 1, 0).rest(), 5);
        is("19 all", Check.made(FULL_GONE, FULL_NEEDS).rest(), 255);
    }

    private static void plough() {
        PloughTurns x = Check.made("d001;d011;c024;d031", "0a1;1a1;1b1;2a1;3x1");
        is("20 night 0", x.plough(0, 0), 0);
        is("20 night 0", x.plough(0, 1), 1);
        is("20 night 1", x.plough(1, 0), 1);
        is("20 night 1", x.plough(1, 1), 2);
        is("20 changes nothing", x.count(4), 0);
        is("20 changes nothing", x.count(5), 0);
        is("20 none is met", new PloughTurns().plough(23, 0), 0);
        is("20 none is met", new PloughTurns().plough(23, 1), 0);
        is("20 behind all events of it", Check.made("d001", "0a1", 0, 5, 0, 1, 5, 0).plough(5, 1), 1);
        // Night 5, behind the harrow: 0 comes again for what has opened meanwhile.
        PloughTurns y = Check.made("d021", "0a1;0d1", 0, 0, 2, 1, 5, 2);
        is("20 behind the harrow", y.plough(5, 0), 2);
        is("20 behind the harrow", y.plough(5, 1), 2);
        is("20 ahead of it", y.plough(4, 1), 1);
        is("20 whatever room", full().plough(23, 0), 1);
        is("20 whatever room", full().plough(23, 1), 2);
        PloughTurns f = full();
        is("20 met anyhow", f.plough(1, 0), 0);
        is("20 met anyhow", f.plough(1, 1), 1);
        is("20 room stays full", f.count(4), 8);
        is("20 room stays full", f.event(0, 0, 0), FULL);
        is("20 the last is still told", f.back(), 7);
        // What one plough more brings may keep another from coming.
        PloughTurns z = Check.made("r001;d011", "0d1;1d1", 0, 3, 0);
        is("20 by the last night", z.plough(3, 0), 1);
        is("20 by the last night", z.plough(3, 1), 2);
        is("20 up too early", z.plough(0, 0), 1);
        is("20 up too early", z.plough(0, 1), 1);
        is("20 plough", x.plough(-1, 0), BAD);
        is("20 plough", x.plough(24, 0), BAD);
        is("20 plough", x.plough(0, -1), BAD);
        is("20 plough", x.plough(0, 2), BAD);
    }

    private static PloughTurns full() {
        return Check.made("d001;d011", "0a1;1c1",
            0, 0, 0, 1, 1, 5, 1, 1, 5, 1, 1, 5, 1, 1, 5, 1, 1, 5, 1, 1, 5, 1, 1, 5);
    }

    private static void lie() {
        // Furrow 1 is ploughed last; cell (0, 1) is another's, and 0 comes there by less x alone.
        PloughTurns x = Check.made("r101;c011", "", 0, 3, 0, 0, 9, 1);
        is("21 x", x.lie(0, 0), 1);
        is("21 y", x.lie(0, 1), 1);
        is("21 nights", x.lie(0, 2), 15);
        is("21 none", x.lie(1, 0), NONE);
        is("21 none", x.lie(1, 1), NONE);
        is("21 none", x.lie(1, 2), NONE);
        is("21 changes nothing", x.gone(0, 1), 1);
        is("21 changes nothing", x.gone(0, 2), 0);
        // Comes up and is harrowed in on one night: no night at all, and better than staying.
        PloughTurns y = Check.made("r351", "", 0, 23, 0, 0, 4, 2, 1, 4, 2);
        are("21 none at all", new long[] {y.lie(0, 0), y.lie(0, 1), y.lie(0, 2)}, 0, 2, 0);
        // Like ones: the least y of the least x.
        PloughTurns z = Check.made("r551", "", 0, 7, 3, 0, 7, 1, 0, 7, 5);
        are("21 least x, then y", new long[] {z.lie(0, 0), z.lie(0, 1), z.lie(0, 2)}, 0, 1, 17);
        // Beside one of as much pull it is better to be of more x.
        PloughTurns w = Check.made("r031;r301", "", 0, 0, 0, 0, 5, 0, 0, 8, 3);
        are("21 of less x first", new long[] {w.lie(0, 0), w.lie(0, 1), w.lie(0, 2)}, 0, 3, 16);
        is("21 own cell is free", Check.made("r001", "", 0, 1, 0).lie(0, 0), 0);
        is("21 by no event", Check.made("r001", "").lie(0, 2), NONE);
        is("21 lie", x.lie(-1, 0), BAD);
        is("21 lie", x.lie(2, 0), BAD);
        is("21 lie", x.lie(0, -1), BAD);
        is("21 lie", x.lie(0, 3), BAD);
        is("21 nobody", new PloughTurns().lie(0, 0), BAD);
    }

    private static void when() {
        // 0 is met from night 3 on, both needs from night 6 on.
        PloughTurns x = Check.made("c005;d011", "0b3;0g1;1x5");
        is("22 night", x.when(0, 0), 6);
        is("22 how many", x.when(0, 1), 2);
        is("22 the last night", x.when(1, 0), 23);
        is("22 the last night", x.when(1, 1), 1);
        is("22 like ones", x.when(2, 0), 0);
        is("22 none", x.when(2, 1), 0);
        is("22 changes nothing", x.count(4), 0);
        is("22 earliest enough", Check.made("c005", "0b3").when(0, 0), 3);
        // Behind all events of the night: behind the harrow of night 5.
        PloughTurns y = Check.made("d021", "0a1;0d1", 0, 0, 2, 1, 5, 2);
        is("22 behind the harrow", y.when(2, 0), 5);
        is("22 behind the harrow", y.when(2, 1), 2);
        is("22 whatever room", full().when(1, 0), 2);
        is("22 whatever room", full().when(1, 1), 2);
        is("22 when", x.when(-1, 0), BAD);
        is("22 when", x.when(6, 0), BAD);
        is("22 when", x.when(0, -1), BAD);
        is("22 when", x.when(0, 2), BAD);
    }

    private static long[] spares(PloughTurns x) {
        return new long[] {x.spare(NONE), x.spare(0), x.spare(1)};
    }

    private static void spare() {
        are("23 nothing told", spares(new PloughTurns()), 0, NONE, NONE);
        are("23 nobody wrongly", spares(Check.made("d001", "0a1", 0, 0, 0)), 0, NONE, NONE);
        are("23 the first", spares(year()), 1, 0, NONE);
        are("23 another", spares(Check.made("d001;r011", "0a1", 0, 0, 0, 0, 3, 1)), 1, 1, NONE);
        // Either plough may go; the harrow between them, too: one row is enough.
        are("23 the least row", spares(Check.made("d001", "0a1", 0, 0, 0, 1, 1, 0, 0, 2, 0)), 1, 0, NONE);
        are("23 two", spares(Check.made("r001;r011", "", 0, 0, 0, 0, 1, 1)), 2, 0, 1);
        are("23 the least two", spares(Check.made("d041;r001;r011", "0a1", 1, 0, 3, 0, 0, 0, 0, 0, 4, 0, 1, 1)),
            2, 1, 3);
        are("23 three are too many", spares(Check.made("r001;r011;r021", "", 0, 0, 0, 0, 1, 1, 0, 2, 2)),
            NONE, NONE, NONE);
        is("23 changes nothing", year().count(4), 5);
        is("23 spare", year().spare(-2), BAD);
        is("23 spare", year().spare(2), BAD);
        is("23 spare", year().spare(MOST), BAD);
    }

    private static void seen() {
        PloughTurns x = new PloughTurns();
        int[][] bad = {{-1, 0, 0}, {24, 0, 0}, {0, -1, 0}, {0, 8, 0}, {0, 0, -1}, {0, 0, 2}};
        for (int[] b : bad) {
            is("24 seen", x.seen(b[0], b[1], b[2]), BAD);
        }
        is("24 count", x.count(7), 0);
        for (int n = 1; n <= 8; n++) {
            is("24 seen", x.seen(23, 7, n % 2), n);
        }
        is("24 seen", x.seen(0, 0, 0), FULL);
        is("24 bad ahead of full", x.seen(0, 8, 0), BAD);
        is("24 count", x.count(7), 8);
    }

    private static void forget() {
        PloughTurns x = year();
        is("25 forget", x.forget(), 0);
        x.seen(0, 0, 1);
        x.seen(0, 0, 0);
        is("25 never", x.never(), 0);
        is("25 forget", x.forget(), 2);
        is("25 count", x.count(7), 0);
        is("25 never", x.never(), 31);
        is("25 seen", x.seen(0, 0, 0), 1);
    }

    private static void never() {
        PloughTurns x = year();
        is("26 nothing seen", x.never(), 31);
        // The Roman was not up behind night 0: by the first plough alone.
        x.seen(0, 2, 0);
        is("26 never", x.never(), 1);
        x.forget();
        // 1 was up behind night 4: without the harrow 1 stays; without the second plough it is 0
        // still who comes on night 4.
        x.seen(4, 1, 1);
        is("26 without the harrow", x.never(), 8);
        x.seen(4, 0, 0);
        is("26 both at once", x.never(), 0);
        x.forget();
        x.seen(2, 3, 1);
        is("26 told anyhow", x.never(), 27);
        x.seen(2, 7, 0);
        is("26 of one that is not there", x.never(), 0);
        is("26 no events", new PloughTurns().never(), 0);
        is("26 eight", full().never(), 255);
    }

    private static void was() {
        // 0 is dead, 6 far, wanted by 3 on night 2 and by 5 on night 4, beside nobody.
        PloughTurns x = Check.made("d006;d019", "0a1", 0, 2, 0, 0, 4, 0);
        is("27 nothing seen", x.was(0, 0), 7);
        is("27 nothing seen", x.was(0, 1), 1022);
        // Up behind night 2: dead to half of 7; in Canada 6 is too far.
        x.seen(2, 0, 1);
        is("27 sorts", x.was(0, 0), 5);
        is("27 fars", x.was(0, 1), 0xFE);
        is("27 of another", x.was(1, 0), 7);
        is("27 of another", x.was(1, 1), 1022);
        x.forget();
        // Not behind 2, but behind 4: of the dead 8 and 9.
        x.seen(2, 0, 0);
        x.seen(4, 0, 1);
        is("27 no sort", x.was(0, 0), 0);
        is("27 fars", x.was(0, 1), 0x300);
        x.forget();
        x.seen(4, 0, 0);
        is("27 in Canada", x.was(0, 0), 2);
        is("27 no far", x.was(0, 1), 0);
        is("27 own stays", x.gone(0, 0), 0);
        is("27 own stays", x.gone(0, 3), 6);
        x.seen(0, 2, 0);
        is("27 of one that is not there", x.was(0, 0), 0);
        is("27 was", x.was(-1, 0), BAD);
        is("27 was", x.was(2, 0), BAD);
        is("27 was", x.was(0, -1), BAD);
        is("27 was", x.was(0, 2), BAD);
    }

    private static void ask() {
        // In Canada: up behind night 2 from 1 to 3, behind night 5 to 6, behind night 6 to 7.
        PloughTurns x = Check.made("c006;d019", "0a1", 0, 2, 0, 0, 5, 0, 0, 6, 0);
        // By fives and fours is best, but there are 3 and 6, 6 and 3, 7 and 2: the least night of like ones.
        is("28 ask", x.ask(0), 2);
        // 1 to 3 are out: of 4 to 9 there are 3 and 3 behind night 5.
        x.seen(4, 0, 0);
        is("28 of the fars left", x.ask(0), 5);
        x.seen(5, 0, 0);
        is("28 of 7 to 9", x.ask(0), 6);
        x.seen(6, 0, 1);
        is("28 of one", x.ask(0), 0);
        x.seen(0, 0, 1);
        is("28 of none", x.ask(0), 0);
        x.forget();
        is("28 no odds", x.ask(1), 0);
        // Night 0: by a far of 1 to 5 it is 0 who comes, by 6 to 9 it is 1; then all are harrowed in.
        // Night 1: 1 comes if not met yet, else 2: 0 is not up by any far, yet the others tell.
        PloughTurns y = Check.made("d006;d104;d201", "0a6;1a6;2b5", 0, 0, 0, 1, 0, 0, 0, 1, 0);
        is("28 by who stood there", y.ask(0), 1);
        is("28 own stays", y.gone(0, 3), 6);
        is("28 ask", x.ask(-1), BAD);
        is("28 ask", x.ask(2), BAD);
    }

    private static void chanceIs(PloughTurns x, int c, int need, long above, long below) {
        is("29 above", x.chance(c, need, 0), above);
        is("29 below", x.chance(c, need, 1), below);
    }

    private static void chance() {
        PloughTurns x = Check.made("d001", "0a1;0c1;1a1", 0, 0, 0);
        chanceIs(x, 5, 0, 5, 16);
        chanceIs(x, 4, 0, 1, 4);
        chanceIs(x, 0, 0, 0, 1);
        chanceIs(x, 16, 0, 1, 1);
        chanceIs(x, 16, 1, 0, 1);
        chanceIs(x, 16, 2, 0, 1);
        // A second plough: 0a1 by either; 0c1 by the second, unless 0 is up already.
        x.event(0, 3, 0);
        chanceIs(x, 8, 0, 3, 4);
        chanceIs(x, 8, 1, 1, 4);
        chanceIs(x, 1, 0, 31, 256);
        chanceIs(x, 1, 1, 15, 256);
        chanceIs(x, 16, 1, 0, 1);
        // Eight ploughs, one of them is enough: 16 to the eighth less 15 to the eighth.
        PloughTurns y = Check.made("d001", "0a1");
        chanceIs(y, 7, 0, 0, 1);
        for (int e = 0; e < 8; e++) {
            y.event(0, e, 0);
        }
        chanceIs(y, 1, 0, 4294967296L - 2562890625L, 4294967296L);
        y.back();
        chanceIs(y, 8, 0, 127, 128);
        long bad = Long.MIN_VALUE + 2;
        is("29 chance", y.chance(-1, 0, 0), bad);
        is("29 chance", y.chance(17, 0, 0), bad);
        is("29 chance", y.chance(5, -1, 0), bad);
        is("29 chance", y.chance(5, 1, 0), bad);
        is("29 chance", y.chance(5, 0, -1), bad);
        is("29 chance", y.chance(5, 0, 2), bad);
        y.wipe(1);
        is("29 no need", y.chance(5, 0, 0), bad);
        Check.enter(y, 1, "0x1");
        chanceIs(y, 8, 0, 0, 1);
    }

    private static void years() {
        PloughTurns x = Check.made("r001;r011;r021;r031;r041;r051", "");
        int came = 0;
        int seed = 0;
        int[][] told = new int[8][3];
        for (int e = 0; e < 8; e++) {
            int[] modulo = {2, 24, 6};
            for (int j = 0; j < 3; j++) {
                seed = seed * 1103515245 + 12345;
                told[e][j] = ((seed >> 16) & 0xFFFF) % modulo[j];
            }
        }
        PloughTurns y = Check.made("r001;r011;r021;r031;r041;r051", "");
        for (int n = 0; n <= 8; n++) {
            came = y.wrongly();
            is("30 wrongly by " + n, x.years(0, n, 1), came);
            is("30 met by " + n, x.years(0, n, 0), 0);
            if (n < 8) {
                y.event(told[n][0], told[n][1], told[n][2]);
            }
        }
        Check.holds("30 somebody comes", came > 0);
        // With everybody wanted from the first night on, who comes first is not wrong.
        PloughTurns z = Check.made("r001;r011;r021;r031;r041;r051", "0a9;1a9;2a9;3a9;4a9;5a9");
        int metInAll = 0;
        for (int s = 0; s < 40; s++) {
            is("30 one event is not wrong", z.years(s, 1, 1), 0);
            metInAll += z.years(s, 1, 0);
        }
        Check.holds("30 some are met: " + metInAll, metInAll > 0 && metInAll < 40);
        is("30 in place of those told", year().years(3, 0, 0), 0);
        is("30 in place of those told", year().years(3, 0, 1), 0);
        is("30 changes nothing", x.count(4), 0);
        is("30 any seed", x.years(LEAST, 0, 0), 0);
        is("30 years", x.years(1, -1, 0), BAD);
        is("30 years", x.years(1, 9, 0), BAD);
        is("30 years", x.years(1, 8, -1), BAD);
        is("30 years", x.years(1, 8, 2), BAD);
    }

    private static void sheet() {
        PloughTurns x = new PloughTurns();
        is("31 sheet", x.sheet(-1, 0, 1), BAD);
        is("31 sheet", x.sheet(4, 0, 1), BAD);
        is("31 sheet", x.sheet(0, -1, 1), BAD);
        is("31 sheet", x.sheet(0, 3, 1), BAD);
        is("31 sheet", x.sheet(0, 0, 61), BAD);
        is("31 bad ahead of size", x.sheet(4, 0, -1), BAD);
        is("31 bad ahead of size", x.sheet(0, 3, -1), BAD);
        is("31 no finding", x.count(8), 0);
        is("31 size", x.sheet(0, 0, -1), SIZE);
        is("31 finding", x.count(8), 5);
        is("31 lost yet", x.get(0, 0, 0), LEAST);
        is("31 lost yet", x.count(8), 1);
        is("31 sheet", x.sheet(3, 2, 60), 60);
        is("31 of 0 at first", x.get(3, 2, 59), 0);
        is("31 put", x.put(3, 2, 59, 7), 1);
        is("31 size", x.sheet(3, 1, LEAST), SIZE);
        is("31 stays", x.get(3, 2, 59), 7);
        is("31 new row", x.sheet(3, 2, 60), 60);
        is("31 of 0 at first", x.get(3, 2, 59), 0);
        is("31 of none", x.sheet(3, 1, 0), 0);
        is("31 no item", x.put(3, 1, 0, 1), INDEX);
        is("31 had none", x.lose(3), 0);
    }

    private static void lose() {
        PloughTurns x = new PloughTurns();
        x.sheet(2, 1, 9);
        is("32 lose", x.lose(-1), BAD);
        is("32 lose", x.lose(4), BAD);
        is("32 lose", x.lose(1), NULL);
        is("32 finding", x.count(8), 1);
        is("32 lose", x.lose(2), 9);
        is("32 lost", x.lose(2), NULL);
        is("32 lost", x.put(2, 1, 0, 0), NULL);
    }

    private static void put() {
        PloughTurns x = new PloughTurns();
        x.sheet(0, 0, 3);
        x.sheet(1, 1, 3);
        x.sheet(2, 2, 3);
        int[] values = {0, 127, 128, 255, 256, -128, -129, 32767, 32768, 65535, 65536, -32769, 0x12345678, LEAST, MOST};
        for (int v : values) {
            for (int form = 0; form < 3; form++) {
                is("33 put", x.put(form, form, 2, v), 1);
                is("33 kept", x.get(form, form, 2), form == 0 ? (byte) v : form == 1 ? (short) v : v);
            }
        }
        is("33 put", x.put(-1, 0, 0, 0), BAD);
        is("33 put", x.put(4, 0, 0, 0), BAD);
        is("33 put", x.put(0, -1, 0, 0), BAD);
        is("33 put", x.put(0, 3, 0, 0), BAD);
        is("33 no finding", x.count(8), 0);
        is("33 index", x.put(0, 0, 3, 0), INDEX);
        is("33 finding", x.count(8), 2);
        is("33 index", x.put(0, 0, -1, 0), INDEX);
        is("33 cast ahead of index", x.put(0, 1, 3, 0), CAST);
        is("33 finding", x.count(8), 3);
        is("33 cast", x.put(2, 1, 0, 0), CAST);
        is("33 null ahead of all", x.put(3, 1, 9, 0), NULL);
        is("33 bad ahead of null", x.put(3, 3, 9, 0), BAD);
        is("33 finding stays", x.count(8), 1);
        is("33 others stay", x.get(0, 0, 1), 0);
        is("33 stays", x.get(2, 2, 2), MOST);
    }

    private static void get() {
        PloughTurns x = new PloughTurns();
        x.sheet(0, 0, 2);
        x.put(0, 0, 0, -5);
        is("34 get", x.get(0, 0, 0), -5);
        is("34 get", x.get(0, 0, 1), 0);
        is("34 bad", x.get(-1, 0, 0), LEAST);
        is("34 bad", x.get(4, 0, 0), LEAST);
        is("34 bad", x.get(0, -1, 0), LEAST);
        is("34 bad", x.get(0, 3, 0), LEAST);
        is("34 no finding", x.count(8), 0);
        is("34 index", x.get(0, 0, 2), LEAST);
        is("34 finding", x.count(8), 2);
        is("34 cast", x.get(0, 2, 2), LEAST);
        is("34 finding", x.count(8), 3);
        is("34 null", x.get(1, 2, 2), LEAST);
        is("34 finding", x.count(8), 1);
        is("34 index", x.get(0, 0, -1), LEAST);
        is("34 finding", x.count(8), 2);
        is("34 get", x.get(0, 0, 0), -5);
        is("34 finding stays", x.count(8), 2);
    }

    private static void copy() {
        PloughTurns x = new PloughTurns();
        x.sheet(0, 1, 5);
        x.sheet(1, 1, 3);
        x.sheet(2, 2, 5);
        Check.putRow(x, 0, 1, 1, 2, 3, 4, 5);
        is("35 copy", x.copy(0, 1, 1, 0, 3), 1);
        are("35 copied", Check.row(x, 1, 1, 3), 2, 3, 4);
        is("35 copy", x.copy(0, 0, 0, 1, 4), 1);
        are("35 as they were, up", Check.row(x, 0, 1, 5), 1, 1, 2, 3, 4);
        is("35 copy", x.copy(0, 1, 0, 0, 4), 1);
        are("35 as they were, down", Check.row(x, 0, 1, 5), 1, 2, 3, 4, 4);
        is("35 of none at the end", x.copy(0, 5, 1, 3, 0), 1);
        is("35 of none, i above", x.copy(0, 6, 1, 3, 0), INDEX);
        is("35 of none, j above", x.copy(0, 5, 1, 4, 0), INDEX);
        is("35 i below", x.copy(0, -1, 1, 0, 1), INDEX);
        is("35 j below", x.copy(0, 0, 1, -1, 1), INDEX);
        is("35 n below", x.copy(0, 1, 1, 1, -1), INDEX);
        is("35 too many of s", x.copy(1, 1, 0, 0, 3), INDEX);
        is("35 too many of t", x.copy(0, 0, 1, 1, 3), INDEX);
        is("35 far too many", x.copy(0, 1, 1, 1, MOST), INDEX);
        is("35 far too far", x.copy(0, MOST, 1, 1, 1), INDEX);
        is("35 far too far", x.copy(0, 1, 1, MOST, MOST), INDEX);
        is("35 finding", x.count(8), 2);
        is("35 store ahead of index", x.copy(0, -1, 2, 0, 1), STORE);
        is("35 finding", x.count(8), 4);
        is("35 null ahead of store", x.copy(3, 0, 2, 0, 1), NULL);
        is("35 null ahead of store", x.copy(2, 0, 3, 0, 1), NULL);
        is("35 null", x.copy(3, 0, 3, 0, 0), NULL);
        is("35 bad ahead of null", x.copy(3, 0, 4, 0, 1), BAD);
        is("35 bad", x.copy(-1, 0, 0, 0, 1), BAD);
        is("35 bad", x.copy(4, 0, 0, 0, 1), BAD);
        is("35 bad", x.copy(0, 0, -1, 0, 1), BAD);
        is("35 finding stays", x.count(8), 1);
        are("35 stays", Check.row(x, 1, 1, 3), 2, 3, 4);
    }

    private static void write() {
        PloughTurns x = year();
        is("36 null", x.write(0, 0), NULL);
        is("36 bad ahead of null", x.write(4, 0), BAD);
        is("36 bad", x.write(-1, 0), BAD);
        is("36 bad", x.write(0, -1), BAD);
        is("36 bad", x.write(0, 4), BAD);
        x.sheet(0, 2, 26);
        x.put(0, 2, 24, 77);
        x.put(0, 2, 9, 77);
        is("36 of 24 at most", x.write(0, 0), 24);
        long[] due = {1, 2, 3, 13, 0, 0, 0, 0, 0, 0, 0, 0, 0, 0, 0, 0, 0, 0, 0, 0, 0, 0, 0, 0, 77, 0};
        are("36 written", Check.row(x, 0, 2, 26), due);
        x.sheet(1, 0, 3);
        is("36 as many as there are", x.write(0, 1), 3);
        are("36 written", Check.row(x, 1, 0, 3), 1, 2, 3);
        x.sheet(1, 1, 0);
        is("36 none", x.write(0, 1), 0);
        is("36 nobody", new PloughTurns().write(0, 0), BAD);
    }

    private static void count() {
        PloughTurns x = year();
        x.seen(0, 0, 0);
        x.sheet(0, 0, -3);
        int[] due = {4, 4, 19, 15, 5, 4, 1, 1, 5};
        for (int what = 0; what <= 8; what++) {
            is("37 count", x.count(what), due[what]);
        }
        is("37 count", x.count(-1), BAD);
        is("37 count", x.count(9), BAD);
        is("37 finding stays", x.count(8), 5);
        x.back();
        is("37 met", x.count(5), 2);
    }

    /** What digest() tells of, called one by one. */
    static long digestOf(PloughTurns x) {
        Row row = new Row();
        for (int what = 0; what < 8; what++) {
            row.add(x.count(what));
        }
        row.add(x.fault(0), x.fault(1));
        for (int k = 0; k < x.count(1); k++) {
            row.add(x.need(k, 0), x.need(k, 1), x.need(k, 2), x.met(k), x.chance(5, k, 0), x.chance(5, k, 1));
        }
        for (int k = 0; k < x.count(0); k++) {
            row.add(x.gone(k, 0), x.gone(k, 1), x.gone(k, 2), x.gone(k, 3));
            for (int night : new int[] {0, 7, 15, 23}) {
                row.add(x.at(night, k, 0), x.at(night, k, 1), x.at(night, k, 2));
            }
            row.add(x.stood(k), x.lie(k, 0), x.lie(k, 1), x.lie(k, 2), x.was(k, 0), x.was(k, 1), x.ask(k));
        }
        for (int night = 0; night < 24; night++) {
            row.add(x.up(night, 0), x.up(night, 1));
        }
        for (int furrow = 0; furrow < 6; furrow++) {
            row.add(x.when(furrow, 0), x.when(furrow, 1));
        }
        row.add(x.first(0), x.first(1), x.gate(), x.rest(), x.plough(8, 0), x.plough(8, 1), x.spare(NONE), x.spare(0),
            x.never(), x.years(7, 6, 0), x.years(7, 6, 1));
        return row.h;
    }

    private static final class Row {
        long h = 17;

        void add(long... values) {
            for (long v : values) {
                h = 31 * h + v;
            }
        }
    }

    private static void digest() {
        PloughTurns x = year();
        is("38 digest", x.digest(), digestOf(x));
        x.seen(4, 1, 1);
        x.seen(9, 0, 0);
        is("38 digest", x.digest(), digestOf(x));
        is("38 the same again", x.digest(), x.digest());
        long before = x.digest();
        x.sheet(0, 1, -1);
        is("38 findings are not in it", x.digest(), before);
        PloughTurns y = Check.made(FULL_GONE, FULL_NEEDS, 0, 9, 0, 0, 10, 1, 0, 11, 0, 1, 12, 0, 0, 13, 0);
        is("38 digest", y.digest(), digestOf(y));
        // By furrow and how many, a plough on night 8 is unlike one on night 7 or 9.
        PloughTurns z = Check.made("d001;d011;d021", "0h1;1i1;1i1;2j1;2j1;2j1");
        are("38 plough", new long[] {z.plough(7, 1), z.plough(8, 1), z.plough(9, 1)}, 1, 2, 3);
        is("38 digest", z.digest(), digestOf(z));
        PloughTurns w = Check.made("r001;r011;r021;r031;r041;r051", "0a1;1a1;2c1;3e1");
        is("38 digest", w.digest(), digestOf(w));
        PloughTurns none = new PloughTurns();
        is("38 digest", none.digest(), digestOf(none));
        is("38 digest", faulty().digest(), digestOf(faulty()));
    }
}
