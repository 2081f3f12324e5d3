/** The boundary cases of the promises 1 to 10: texts, the gone, needs, events, reading them. */
public final class EdgesOfTexts {
    private static final int NONE = -1, BAD = -2, NOT = -3, FULL = -4, NULL = -11;
    private static final int LEAST = Integer.MIN_VALUE, MOST = Integer.MAX_VALUE;
    private static final int[] ROOM = {39, 31};
    private static final String[] FULL_TEXT = {Check.FULL_GONE, Check.FULL_NEEDS};

    private EdgesOfTexts() {
    }

    public static void main(String[] args) {
        newObjectHasNothing();
        newObjectHasNoSheet();
        objectsShareNothing();
        typeTakesEachByte();
        typeUpToFull();
        typeRefusesBad();
        typeTellsAtOnce();
        wipeTellsHowManyThereWere();
        wipeLeavesTheRest();
        wipeRefusesBad();
        undoDownToNone();
        undoTakesBackWhatTypeDid();
        undoRefuses();
        faultOfEachByteOfOneGone();
        faultOfEachByteOfANeed();
        faultOfTextsNotEnded();
        faultWhereAnotherLies();
        faultOfTheEighthAndNinth();
        faultIsAsIfEmpty();
        faultRefusesBad();
        goneFromLeastToGreatest();
        goneRefusesBad();
        needFromLeastToGreatest();
        needRefusesBad();
        eventFromLeastToGreatest();
        eventRefusesBadAheadOfFull();
        backDownToNone();
        backTakesTheLastByNumber();
        readAsManyAsAreWhole();
        readUpToFull();
        readUpToTheFirstRefused();
        readOfEachForm();
        readRefuses();
        Check.close();
    }

    private static void is(String call, long got, long due) {
        Check.is(call, got, due);
    }

    private static PloughTurns texts(String gone, String needs) {
        return Check.made(gone, needs);
    }

    private static PloughTurns eightEvents() {
        return Check.made(Check.FULL_GONE, Check.FULL_NEEDS,
            0, 0, 0, 0, 1, 1, 1, 2, 0, 0, 3, 0, 0, 9, 0, 1, 12, 1, 0, 20, 1, 0, 23, 0);
    }

    // ---- promise 1

    private static void newObjectHasNothing() {
        PloughTurns x = new PloughTurns();
        for (int what = 0; what <= 8; what++) {
            is("1 count " + what, x.count(what), 0);
        }
        for (int text = 0; text < 2; text++) {
            is("1 fault", x.fault(text), NONE);
            is("1 undo", x.undo(text), NOT);
            is("1 wipe", x.wipe(text), 0);
        }
        is("1 nobody gone", x.gone(0, 0), BAD);
        is("1 no need", x.need(0, 0), BAD);
        is("1 no event", x.back(), NOT);
        is("1 nothing seen", x.forget(), 0);
        is("1 nobody is up", x.up(0, 0), 0);
        is("1 nobody is up", x.up(23, 0), 0);
        is("1 nothing is open", x.up(23, 1), 0);
        is("1 the field is empty", x.field(0, 0, 0), NONE);
        is("1 the field is empty", x.field(23, 5, 5), NONE);
        is("1 nobody came", x.first(0), NONE);
        is("1 nobody holds the gate", x.gate(), NONE);
        is("1 nobody rests", x.rest(), 0);
    }

    private static void newObjectHasNoSheet() {
        for (int s = 0; s < 4; s++) {
            for (int form = 0; form < 3; form++) {
                PloughTurns x = new PloughTurns();
                is("1 get", x.get(s, form, 0), LEAST);
                is("1 get finds NULL", x.count(8), 1);
                is("1 put", x.put(s, form, 0, 1), NULL);
                is("1 read", x.read(s), NULL);
                is("1 lose", x.lose(s), NULL);
            }
        }
    }

    private static void objectsShareNothing() {
        PloughTurns x = eightEvents();
        PloughTurns y = new PloughTurns();
        long before = y.digest();
        x.seen(3, 0, 1);
        x.sheet(1, 2, 5);
        x.sheet(0, 0, -1);
        long digest = x.digest();
        is("1 another object stays new", y.digest(), before);
        is("1 another object stays new", y.count(8), 0);
        is("1 another object stays new", y.lose(1), NULL);
        Check.enter(y, 0, "r001");
        y.event(0, 0, 0);
        is("1 the one stays as it is", x.digest(), digest);
        is("1 the one stays as it is", x.count(8), 5);
    }

    // ---- promise 2

    private static void typeTakesEachByte() {
        for (int b = 0; b <= 255; b++) {
            for (int text = 0; text < 2; text++) {
                PloughTurns x = new PloughTurns();
                is("2 type " + b, x.type(text, b), 1);
                is("2 type " + b + " is there", x.count(2 + text), 1);
                is("2 type " + b + " is not in the other", x.count(3 - text), 0);
            }
        }
    }

    private static void typeUpToFull() {
        for (int text = 0; text < 2; text++) {
            PloughTurns x = new PloughTurns();
            for (int n = 1; n <= ROOM[text]; n++) {
                is("2 type", x.type(text, FULL_TEXT[text].charAt(n - 1)), n);
            }
            int own = text;
            Check.refused("2 type into a full text", x, FULL, () -> x.type(own, ';'));
            Check.refused("2 type into a full text", x, FULL, () -> x.type(own, 0));
            is("2 the full text is well", x.fault(text), NONE);
            is("2 the full text tells eight", x.count(text), 8);
            is("2 the other text has room", x.type(1 - text, ';'), 1);
            is("2 undo makes room", x.undo(text), ROOM[text] - 1);
            is("2 room for one", x.type(text, '9'), ROOM[text]);
            is("2 room for no other", x.type(text, '9'), FULL);
            is("2 wipe makes room", x.wipe(text), ROOM[text]);
            is("2 room for all", x.type(text, '0'), 1);
        }
    }

    private static void typeRefusesBad() {
        PloughTurns x = texts("d001", "0a1");
        PloughTurns full = texts(Check.FULL_GONE, Check.FULL_NEEDS);
        for (int number : Check.FAR_OFF) {
            Check.refused("2 type text " + number, x, BAD, () -> x.type(number, ';'));
            for (int text = 0; text < 2; text++) {
                int own = text;
                Check.refused("2 type byte " + number, x, BAD, () -> x.type(own, number));
            }
            is("2 bad byte ahead of full", full.type(0, number), BAD);
            is("2 bad byte ahead of full", full.type(1, number), BAD);
        }
        is("2 text 2", x.type(2, ';'), BAD);
        is("2 text 2, a bad byte", x.type(2, 256), BAD);
        is("2 the next byte is the fifth", x.type(0, ';'), 5);
        is("2 the next byte is the fourth", x.type(1, ';'), 4);
    }

    private static void typeTellsAtOnce() {
        int[] gone = {0, 0, 0, 1, 0, 0, 0, 0, 2, 0, 0};
        int[] faults = {1, 2, 3, NONE, 5, 6, 7, 8, NONE, 9, 9};
        PloughTurns x = Check.made("", "", 0, 0, 0);
        String text = "d001;r105,;";
        for (int p = 0; p < text.length(); p++) {
            x.type(0, text.charAt(p));
            is("2 told behind byte " + p, x.count(0), gone[p]);
            is("2 fault behind byte " + p, x.fault(0), faults[p]);
            is("2 who comes behind byte " + p, x.gate(), gone[p] == 0 ? NONE : 0);
        }
        PloughTurns y = Check.made("d001", "", 0, 2, 0);
        String needs = "0a1;0c1";
        int[] met = {0, 0, 1, 0, 0, 0, 2};
        for (int p = 0; p < needs.length(); p++) {
            y.type(1, needs.charAt(p));
            is("2 met behind byte " + p, y.count(5), met[p]);
            is("2 wrongly behind byte " + p, y.wrongly(), met[p] == 0 ? 1 : 0);
        }
    }

    // ---- promise 3

    private static void wipeTellsHowManyThereWere() {
        for (int text = 0; text < 2; text++) {
            PloughTurns x = new PloughTurns();
            is("3 wipe of none", x.wipe(text), 0);
            for (int had = 1; had <= ROOM[text]; had++) {
                Check.enter(x, text, FULL_TEXT[text].substring(0, had));
                is("3 wipe of " + had, x.wipe(text), had);
                is("3 none left of " + had, x.count(2 + text), 0);
                is("3 nothing told by " + had, x.count(text), 0);
                is("3 well without " + had, x.fault(text), NONE);
                x = new PloughTurns();
            }
            Check.enter(x, text, "??");
            is("3 wipe of a faulty one", x.wipe(text), 2);
            is("3 well", x.fault(text), NONE);
        }
    }

    private static void wipeLeavesTheRest() {
        PloughTurns x = eightEvents();
        x.seen(0, 0, 1);
        x.sheet(2, 0, 7);
        is("3 wipe the gone", x.wipe(0), 39);
        is("3 needs stay", x.count(1), 8);
        is("3 needs' bytes stay", x.count(3), 31);
        is("3 events stay", x.count(4), 8);
        is("3 what was seen stays", x.count(7), 1);
        is("3 none is met", x.count(5), 0);
        is("3 all are open", x.up(23, 1), 8);
        is("3 nobody came", x.first(0), NONE);
        Check.enter(x, 0, "r002");
        is("3 only what is typed anew", x.count(0), 1);
        is("3 only what is typed anew", x.gone(0, 0), 2);
        is("3 only what is typed anew", x.gone(0, 3), 2);
        is("3 events as they were", x.first(0), 0);
        is("3 wipe the needs", x.wipe(1), 31);
        is("3 the gone stay", x.count(0), 1);
        is("3 who comes now comes wrongly", x.wrongly(), 2);
        is("3 the sheet stays", x.lose(2), 7);
        is("3 no finding", x.count(8), 0);
    }

    private static void wipeRefusesBad() {
        PloughTurns x = texts("d001", "0a1");
        for (int number : Check.FAR_OFF) {
            Check.refused("3 wipe " + number, x, BAD, () -> x.wipe(number));
        }
        Check.refused("3 wipe 2", x, BAD, () -> x.wipe(2));
    }

    // ---- promise 4

    private static void undoDownToNone() {
        for (int text = 0; text < 2; text++) {
            PloughTurns x = new PloughTurns();
            Check.enter(x, text, FULL_TEXT[text]);
            Check.enter(x, 1 - text, "?");
            for (int left = ROOM[text] - 1; left >= 0; left--) {
                is("4 undo", x.undo(text), left);
                is("4 left", x.count(2 + text), left);
            }
            int own = text;
            Check.refused("4 undo of none", x, NOT, () -> x.undo(own));
            Check.refused("4 undo of none", x, NOT, () -> x.undo(own));
            is("4 the other text stays", x.count(3 - text), 1);
            is("4 type starts anew", x.type(text, 'd'), 1);
        }
    }

    private static void undoTakesBackWhatTypeDid() {
        String[] texts = {"d001;r113;c552x", "0a1;7x9;x"};
        PloughTurns x = Check.made("", "", 0, 0, 0, 0, 4, 1);
        for (int text = 0; text < 2; text++) {
            for (int p = 0; p < texts[text].length(); p++) {
                long before = x.digest();
                x.type(text, texts[text].charAt(p));
                is("4 undo of byte " + p, x.undo(text), p);
                is("4 as it was ahead of byte " + p, x.digest(), before);
                x.type(text, texts[text].charAt(p));
            }
            is("4 the faulty byte", x.undo(text), texts[text].length() - 1);
        }
    }

    private static void undoRefuses() {
        PloughTurns x = texts("d001", "0a1");
        PloughTurns empty = new PloughTurns();
        for (int number : Check.FAR_OFF) {
            Check.refused("4 undo " + number, x, BAD, () -> x.undo(number));
            Check.refused("4 undo, bad ahead of empty, " + number, empty, BAD, () -> empty.undo(number));
        }
        Check.refused("4 undo 2", x, BAD, () -> x.undo(2));
        Check.refused("4 undo 2", empty, BAD, () -> empty.undo(2));
    }

    // ---- promise 5

    private static void faultIs(int text, String bytes, int due) {
        PloughTurns x = new PloughTurns();
        Check.enter(x, text, bytes);
        is("5 fault of " + bytes, x.fault(text), due);
        is("5 the other text is well", x.fault(1 - text), NONE);
        is("5 bytes of " + bytes, x.count(2 + text), bytes.length());
        if (due != NONE) {
            is("5 nothing is told by " + bytes, x.count(text), 0);
        }
    }

    /** Every byte behind what is well so far: it goes on by those of a row alone. */
    private static void goesOnBy(int text, String before, String row) {
        for (int b = 0; b <= 255; b++) {
            boolean goesOn = row.indexOf(b) >= 0;
            int place = before.length();
            // Where it goes on, a byte that never does (a blank) shows the place behind it.
            faultIs(text, before + (char) b + " ", goesOn ? place + 1 : place);
        }
    }

    private static void faultOfEachByteOfOneGone() {
        goesOnBy(0, "", "dcr");
        goesOnBy(0, "d", "012345");
        goesOnBy(0, "c5", "012345");
        goesOnBy(0, "r05", "123456789");
        goesOnBy(0, "d009", ";");
        goesOnBy(0, "d001;", "dcr");
        goesOnBy(0, "d001;c", "012345");
        goesOnBy(0, "d001;c0", "12345");
        goesOnBy(0, "d001;c10", "123456789");
        goesOnBy(0, "d001;c101", ";");
        goesOnBy(0, "d001;c105;r209;d302;c401;r503;d011;", "dcr");
    }

    private static void faultOfEachByteOfANeed() {
        goesOnBy(1, "", "01234567");
        goesOnBy(1, "7", "abcdefghijklmnopqrstuvwx");
        goesOnBy(1, "0a", "123456789");
        goesOnBy(1, "0x9", ";");
        goesOnBy(1, "0a1;", "01234567");
        goesOnBy(1, "0a1;0", "abcdefghijklmnopqrstuvwx");
        goesOnBy(1, "0a1;0a", "123456789");
        goesOnBy(1, "0a1;0a1", ";");
    }

    private static void faultOfTextsNotEnded() {
        for (int text = 0; text < 2; text++) {
            int step = text == 0 ? 5 : 4;
            for (int n = 0; n <= ROOM[text]; n++) {
                boolean isEnded = n == 0 || n % step == step - 1;
                faultIs(text, FULL_TEXT[text].substring(0, n), isEnded ? NONE : n);
            }
        }
    }

    private static void faultWhereAnotherLies() {
        faultIs(0, "d001;c001", 7);
        faultIs(0, "d551;r559", 7);
        faultIs(0, "d121;c211", NONE);
        faultIs(0, "d121;c131;r221", NONE);
        faultIs(0, "d001;c101;r201;d301;c401;r501;d011;c501", 37);
        faultIs(0, "d001;c101;r201;d301;c401;r501;d011;c001", 37);
        faultIs(0, "d001;c101;r201;d301;c401;r501;d011;c011", 37);
        faultIs(0, "d001;c101;r201;d301;c401;r501;d011;c021", NONE);
        // The y of the cell alone tells it, not what comes behind it, or is missing there.
        faultIs(0, "d001;c0", 7);
        faultIs(0, "d001;c00", 7);
        faultIs(0, "d001;c000", 7);
        faultIs(0, "d001;c06", 7);
        // One who was taken back lies there no more.
        PloughTurns x = texts("d001;c001", "");
        x.undo(0);
        x.undo(0);
        x.type(0, '1');
        is("5 not ended", x.fault(0), 8);
        x.type(0, '1');
        is("5 well", x.fault(0), NONE);
        x.wipe(0);
        Check.enter(x, 0, "c011");
        is("5 nobody lies there any more", x.fault(0), NONE);
        x.wipe(0);
        Check.enter(x, 0, "c001");
        is("5 nobody lies there any more", x.fault(0), NONE);
    }

    private static void faultOfTheEighthAndNinth() {
        for (int text = 0; text < 2; text++) {
            String full = FULL_TEXT[text];
            faultIs(text, full, NONE);
            faultIs(text, full.substring(0, full.length() - 1) + "0", ROOM[text] - 1);
            faultIs(text, full.substring(0, full.length() - 1) + ";", ROOM[text] - 1);
            faultIs(text, full.substring(0, full.length() - 1), ROOM[text] - 1);
            PloughTurns x = new PloughTurns();
            Check.enter(x, text, full);
            is("5 no byte comes behind the eighth", x.type(text, ';'), FULL);
            is("5 no ninth", x.fault(text), NONE);
        }
        faultIs(0, "?".repeat(39), 0);
        faultIs(1, "?".repeat(31), 0);
        faultIs(0, ";".repeat(39), 0);
        faultIs(1, ";".repeat(31), 0);
    }

    private static void faultIsAsIfEmpty() {
        PloughTurns empty = Check.made("", "0a1;1c5", 0, 0, 0, 0, 3, 0);
        PloughTurns x = Check.made("r001;d101", "0a1;1c5", 0, 0, 0, 0, 3, 0);
        is("5 well", x.count(0), 2);
        x.type(0, 'd');
        is("5 nobody gone", x.count(0), 0);
        is("5 gone", x.gone(0, 0), BAD);
        is("5 at", x.at(0, 0, 0), BAD);
        is("5 stood", x.stood(0), BAD);
        is("5 lie", x.lie(0, 0), BAD);
        is("5 was", x.was(0, 0), BAD);
        is("5 ask", x.ask(0), BAD);
        is("5 rest", x.rest(), 0);
        is("5 gate", x.gate(), NONE);
        is("5 field", x.field(0, 0, 0), NONE);
        is("5 wrongly", x.wrongly(), 0);
        is("5 open", x.up(23, 1), empty.up(23, 1));
        is("5 chance", x.chance(8, 0, 0), empty.chance(8, 0, 0));
        is("5 years", x.years(5, 8, 1), empty.years(5, 8, 1));
        x.undo(0);
        is("5 well again", x.wrongly(), 0);
        is("5 well again", x.met(1), 3);
        x.type(1, '?');
        is("5 no needs", x.count(1), 0);
        is("5 need", x.need(0, 0), BAD);
        is("5 met", x.met(0), BAD);
        is("5 chance", x.chance(8, 0, 0), Long.MIN_VALUE + 2);
        is("5 open", x.up(23, 1), 0);
        is("5 nobody is wanted", x.at(23, 1, 1), 0);
        is("5 both come wrongly", x.wrongly(), 2);
    }

    private static void faultRefusesBad() {
        PloughTurns x = texts("d001;", "0a1;");
        for (int number : Check.FAR_OFF) {
            Check.refused("5 fault " + number, x, BAD, () -> x.fault(number));
        }
        Check.refused("5 fault 2", x, BAD, () -> x.fault(2));
        is("5 faults stay", x.fault(0), 5);
        is("5 faults stay", x.fault(1), 4);
    }

    // ---- promises 6 and 7

    private static void goneFromLeastToGreatest() {
        PloughTurns x = texts("d001;c559;r055;d501", "");
        long[][] due = {{0, 0, 0, 1}, {1, 5, 5, 9}, {2, 0, 5, 5}, {0, 5, 0, 1}};
        for (int one = 0; one < 4; one++) {
            for (int what = 0; what <= 3; what++) {
                is("6 gone " + one + " " + what, x.gone(one, what), due[one][what]);
            }
        }
        PloughTurns full = texts(Check.FULL_GONE, "");
        for (int one = 0; one < 8; one++) {
            String told = Check.FULL_GONE.substring(5 * one, 5 * one + 4);
            is("6 sort", full.gone(one, 0), "dcr".indexOf(told.charAt(0)));
            for (int what = 1; what <= 3; what++) {
                is("6 gone " + one, full.gone(one, what), told.charAt(what) - '0');
            }
        }
    }

    private static void goneRefusesBad() {
        PloughTurns x = texts("d001;c105", "");
        for (int number : Check.FAR_OFF) {
            Check.refused("6 gone " + number, x, BAD, () -> x.gone(number, 0));
            Check.refused("6 gone what " + number, x, BAD, () -> x.gone(0, number));
        }
        is("6 no such one", x.gone(2, 0), BAD);
        is("6 no such what", x.gone(1, 4), BAD);
        is("6 no ninth", texts(Check.FULL_GONE, "").gone(8, 0), BAD);
        is("6 nobody", texts("", "").gone(0, 0), BAD);
        is("6 nobody of a faulty text", texts("d001;", "").gone(0, 0), BAD);
        PloughTurns fewer = texts("d001;c105", "");
        for (int k = 0; k < 5; k++) {
            fewer.undo(0);
        }
        is("6 who was undone", fewer.gone(1, 0), BAD);
        is("6 who is left", fewer.gone(0, 3), 1);
    }

    private static void needFromLeastToGreatest() {
        PloughTurns x = texts("", "0a1;7x9;0x1;7a9");
        long[][] due = {{0, 0, 1}, {7, 23, 9}, {0, 23, 1}, {7, 0, 9}};
        for (int need = 0; need < 4; need++) {
            for (int what = 0; what <= 2; what++) {
                is("7 need " + need + " " + what, x.need(need, what), due[need][what]);
            }
        }
        for (int night = 0; night < 24; night++) {
            is("7 night", texts("", "0" + (char) ('a' + night) + "1").need(0, 1), night);
        }
        PloughTurns full = texts("", Check.FULL_NEEDS);
        for (int need = 0; need < 8; need++) {
            String told = Check.FULL_NEEDS.substring(4 * need, 4 * need + 3);
            is("7 who", full.need(need, 0), told.charAt(0) - '0');
            is("7 night", full.need(need, 1), told.charAt(1) - 'a');
            is("7 much", full.need(need, 2), told.charAt(2) - '0');
        }
    }

    private static void needRefusesBad() {
        PloughTurns x = texts("", "0a1;1b2");
        for (int number : Check.FAR_OFF) {
            Check.refused("7 need " + number, x, BAD, () -> x.need(number, 0));
            Check.refused("7 need what " + number, x, BAD, () -> x.need(0, number));
        }
        is("7 no such need", x.need(2, 0), BAD);
        is("7 no such what", x.need(1, 3), BAD);
        is("7 no ninth", texts("", Check.FULL_NEEDS).need(8, 0), BAD);
        is("7 none", texts("", "").need(0, 0), BAD);
        is("7 none of a faulty text", texts("", "0a1;").need(0, 0), BAD);
    }

    // ---- promises 8 and 9

    private static void eventFromLeastToGreatest() {
        PloughTurns x = texts("r001;r051", "");
        is("8 the least", x.event(0, 0, 0), 1);
        is("8 the greatest", x.event(1, 23, 5), 2);
        is("8 the last night", x.event(0, 23, 0), 3);
        is("8 the last furrow", x.event(0, 0, 5), 4);
        is("8 it ploughs night 0", x.first(0), 0);
        is("8 it ploughs both furrows", x.up(22, 0), 2);
        is("8 it harrows night 23", x.at(23, 1, 0), 0);
        for (int n = 5; n <= 8; n++) {
            is("8 like ones are taken again", x.event(1, 23, 5), n);
        }
        Check.refused("8 a ninth", x, FULL, () -> x.event(0, 0, 0));
        Check.refused("8 a ninth", x, FULL, () -> x.event(1, 23, 5));
        is("8 eight", x.count(4), 8);
    }

    private static void eventRefusesBadAheadOfFull() {
        PloughTurns x = Check.made("r001", "", 0, 3, 0);
        PloughTurns full = eightEvents();
        for (int number : Check.FAR_OFF) {
            Check.refused("8 kind " + number, x, BAD, () -> x.event(number, 0, 0));
            Check.refused("8 night " + number, x, BAD, () -> x.event(0, number, 0));
            Check.refused("8 furrow " + number, x, BAD, () -> x.event(0, 0, number));
        }
        int[][] beside = {{2, 0, 0}, {0, 24, 0}, {0, 0, 6}, {2, 24, 6}};
        for (int[] e : beside) {
            Check.refused("8 beside", x, BAD, () -> x.event(e[0], e[1], e[2]));
            Check.refused("8 bad ahead of full", full, BAD, () -> full.event(e[0], e[1], e[2]));
        }
        is("8 the next is the second", x.event(0, 0, 0), 2);
    }

    private static void backDownToNone() {
        PloughTurns x = eightEvents();
        x.seen(0, 0, 0);
        x.sheet(3, 1, 4);
        PloughTurns y = texts(Check.FULL_GONE, Check.FULL_NEEDS);
        y.seen(0, 0, 0);
        int[][] told = {{0, 0, 0}, {0, 1, 1}, {1, 2, 0}, {0, 3, 0}, {0, 9, 0}, {1, 12, 1}, {0, 20, 1}, {0, 23, 0}};
        long[] digests = new long[9];
        for (int n = 0; n < 8; n++) {
            digests[n] = y.digest();
            y.event(told[n][0], told[n][1], told[n][2]);
        }
        for (int left = 7; left >= 0; left--) {
            is("9 back", x.back(), left);
            is("9 as it was with " + left, x.digest(), digests[left]);
        }
        Check.refused("9 back of none", x, NOT, x::back);
        Check.refused("9 back of none", x, NOT, x::back);
        is("9 texts stay", x.count(2) + x.count(3), 70);
        is("9 what was seen stays", x.count(7), 1);
        is("9 the sheet stays", x.lose(3), 4);
        is("9 room again", x.event(0, 0, 0), 1);
    }

    private static void backTakesTheLastByNumber() {
        PloughTurns x = Check.made("r001", "", 0, 23, 0, 0, 5, 0, 1, 0, 0, 0, 7, 0);
        is("9 back", x.back(), 3);
        is("9 the plough of night 5 stays", x.first(0), 5);
        is("9 back", x.back(), 2);
        is("9 back", x.back(), 1);
        is("9 the plough of night 23 stays", x.first(0), 23);
        // On one night the order is by the numbers, behind a back(), too.
        x.event(1, 23, 0);
        is("9 harrowed in behind it", x.up(23, 0), 0);
        x.back();
        is("9 not harrowed in", x.up(23, 0), 1);
    }

    // ---- promise 10

    private static void readAsManyAsAreWhole() {
        for (int n = 0; n <= 24; n++) {
            PloughTurns x = new PloughTurns();
            x.sheet(0, 0, n);
            is("10 read of " + n, x.read(0), n / 3);
            is("10 events of " + n, x.count(4), n / 3);
            is("10 no finding", x.count(8), 0);
        }
    }

    private static void readUpToFull() {
        for (int there = 0; there <= 8; there++) {
            for (int n : new int[] {24, 27, 60}) {
                PloughTurns x = new PloughTurns();
                for (int e = 0; e < there; e++) {
                    x.event(0, 0, 0);
                }
                x.sheet(1, 2, n);
                is("10 read behind " + there, x.read(1), 8 - there);
                is("10 eight behind " + there, x.count(4), 8);
                is("10 full", x.read(1), 0);
                is("10 no finding", x.count(8), 0);
            }
        }
    }

    private static void readUpToTheFirstRefused() {
        int[][] refused = {{-1, 0, 0}, {2, 0, 0}, {0, -1, 0}, {0, 24, 0}, {0, 0, -1}, {0, 0, 6}, {LEAST, MOST, LEAST}};
        for (int[] e : refused) {
            for (int ahead = 0; ahead <= 3; ahead++) {
                PloughTurns x = texts("r051", "");
                x.sheet(3, 2, 15);
                for (int k = 0; k < 5; k++) {
                    for (int j = 0; j < 3; j++) {
                        x.put(3, 2, 3 * k + j, k == ahead ? e[j] : new int[] {1, 23, 5}[j]);
                    }
                }
                is("10 up to a refused one behind " + ahead, x.read(3), ahead);
                is("10 none behind it", x.count(4), ahead);
                is("10 no finding", x.count(8), 0);
                is("10 the sheet stays", x.get(3, 2, 3 * ahead), e[0]);
                is("10 the sheet stays", x.lose(3), 15);
            }
        }
        // An item that is refused in the part that is not whole is not looked at.
        PloughTurns x = new PloughTurns();
        x.sheet(0, 0, 5);
        Check.putRow(x, 0, 0, 0, 0, 0, 9, 99);
        is("10 the part stays out", x.read(0), 1);
    }

    private static void readOfEachForm() {
        for (int form = 0; form < 3; form++) {
            PloughTurns x = Check.made("r001;r051", "", 0, 4, 0);
            x.sheet(2, form, 6);
            Check.putRow(x, 2, form, 1, 4, 0, 0, 23, 5);
            long[] sheet = Check.row(x, 2, form, 6);
            is("10 read", x.read(2), 2);
            is("10 behind those that there are", x.at(4, 0, 0), 0);
            is("10 behind those that there are", x.at(4, 0, 2), 1);
            is("10 the second", x.at(23, 1, 0), 1);
            Check.are("10 the sheet stays", Check.row(x, 2, form, 6), sheet);
            is("10 back takes the last of them", x.back(), 2);
            is("10 back takes the last of them", x.at(23, 1, 0), 0);
        }
        // As bytes 256 and 1 is 1: the harrow; as bytes 128 and more is below 0.
        PloughTurns y = new PloughTurns();
        y.sheet(0, 0, 6);
        Check.putRow(y, 0, 0, 257, 256, 5, 0, 128, 0);
        is("10 by what the items are", y.read(0), 1);
    }

    private static void readRefuses() {
        PloughTurns x = Check.made("r001", "", 0, 4, 0);
        for (int number : Check.FAR_OFF) {
            Check.refused("10 read " + number, x, BAD, () -> x.read(number));
        }
        Check.refused("10 read 4", x, BAD, () -> x.read(4));
        for (int s = 0; s < 4; s++) {
            int own = s;
            Check.refused("10 read of a lost sheet", x, NULL, () -> x.read(own));
        }
        x.sheet(0, 0, 3);
        x.lose(0);
        Check.refused("10 read of a lost sheet", x, NULL, () -> x.read(0));
        Check.refused("10 bad leaves the finding", x, BAD, () -> x.read(4));
        PloughTurns full = eightEvents();
        Check.refused("10 NULL ahead of full", full, NULL, () -> full.read(1));
        Check.refused("10 bad ahead of full", full, BAD, () -> full.read(-1));
    }
}
