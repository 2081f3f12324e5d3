/** The boundary cases of ploughs, harrows and wants (part 1) and of the promises 11 to 19. */
public final class EdgesOfNights {
    private static final int NONE = -1, BAD = -2;
    private static final int[] BAD_NIGHTS = {Integer.MIN_VALUE, -1, 24, Integer.MAX_VALUE};
    /** Eight Romans, six of them in furrow 0. */
    private static final String ROMANS = "r001;r101;r201;r301;r401;r501;r011;r111";

    private EdgesOfNights() {
    }

    public static void main(String[] args) {
        pullDownToNought();
        pullGrowsByTheNight();
        likeOnesByLessX();
        upOnesAreLeftOut();
        romanByHowOften();
        othersNotByHowOften();
        needsOfTheSameOneAreMetTogether();
        whoIsUpMeetsNone();
        harrowAllOfOneFurrow();
        eventsByTheirNumbers();
        atUpFromFirstToLastNight();
        atWantedUpToNine();
        atHowOften();
        atRefusesBad();
        fieldInEachCell();
        fieldRefusesBad();
        upFromNoneToEight();
        openFromNoneToEight();
        upRefusesBad();
        metFromFirstToLastNight();
        metOfWhoIsNotThere();
        metRefusesBad();
        stoodFromNoneToAll();
        stoodRefusesBad();
        wronglyFromNoneToEight();
        wronglyAtTheEdgeOfWant();
        firstOnEachNight();
        firstIsByTheOrderOfEvents();
        firstRefusesBad();
        gateOfLikeOnes();
        gateOfNobody();
        restFromNoneToAll();
        Check.close();
    }

    private static void is(String call, long got, long due) {
        Check.is(call, got, due);
    }

    /** A year that refusals are looked at in. */
    private static PloughTurns year() {
        return Check.made("d005;c103;r201;d014", "0a1;1c5;0d9;3b2",
            0, 0, 0, 0, 2, 0, 0, 2, 1, 1, 4, 0, 0, 4, 0);
    }

    /** Every night is ploughed and harrowed, as told n times. */
    private static PloughTurns upAndDown(String gone, String needs, int n) {
        PloughTurns x = Check.made(gone, needs);
        for (int night = 0; night < n; night++) {
            x.event(0, night, 0);
            x.event(1, night, 0);
        }
        return x;
    }

    // ---- part 1: ploughs and harrows

    private static void pullDownToNought() {
        for (int far = 1; far <= 9; far++) {
            for (int much = 1; much <= 9; much++) {
                String need = "0a" + much;
                boolean dead = much >= far / 2;
                boolean abroad = much >= far;
                is("dead " + far + " by " + need, Check.made("d00" + far, need, 0, 0, 0).up(0, 0), dead ? 1 : 0);
                is("Canada " + far + " by " + need, Check.made("c00" + far, need, 0, 0, 0).up(0, 0), abroad ? 1 : 0);
                is("Roman " + far + " by " + need, Check.made("r00" + far, need, 0, 0, 0).up(0, 0), 1);
            }
            is("dead, not wanted, " + far, Check.made("d00" + far, "", 0, 0, 0).up(0, 0), far == 1 ? 1 : 0);
            is("Canada, not wanted, " + far, Check.made("c00" + far, "", 0, 0, 0).up(0, 0), 0);
            is("Roman, not wanted, " + far, Check.made("r00" + far, "", 0, 0, 0).up(0, 0), 1);
        }
    }

    private static void pullGrowsByTheNight() {
        for (int night = 0; night < 24; night++) {
            // Wanted from night 3 on by 2: by 7 on night 8.
            int canada = Check.made("c007", "0d2", 0, night, 0).up(23, 0);
            is("Canada, night " + night, canada, night >= 8 ? 1 : 0);
            int dead = Check.made("d007", "0d2", 0, night, 0).up(23, 0);
            is("dead, night " + night, dead, night >= 4 ? 1 : 0);
        }
        // 9 at most for each need: 1 more than 9 is never reached by one need.
        is("nine at most", Check.made("c009;r109", "0a9", 0, 23, 0).first(1), 0);
        // Night 22: two needs by 9 each, less 9, is more than 8 by one need, less 1.
        is("nine at most each", Check.made("c009;c101", "0a1;0a1;1a1", 0, 22, 0).first(1), 0);
        is("nine at most each", Check.made("c009;c101", "0a1;1a1", 0, 22, 0).first(1), 1);
        // Canada 9 by 9 is 0, no more for waiting 14 nights: of like ones the one of less x, a Roman.
        is("nine and no more", Check.made("c109;r001", "0a9", 0, 14, 0).first(1), 1);
        is("nine and no more", Check.made("c009;r101", "0a9", 0, 14, 0).first(1), 0);
    }

    private static void likeOnesByLessX() {
        String[] sorts = {"d", "c", "r"};
        // Of pull 0 each: the dead not wanted, in Canada wanted by 1, the Roman ahead of any coming.
        for (int a = 0; a < 3; a++) {
            for (int b = 0; b < 3; b++) {
                for (int x = 0; x < 5; x++) {
                    String left = sorts[a] + x + "01";
                    String right = sorts[b] + (x + 1) + "01";
                    String needs = (a == 1 ? "0a1" : "7a1") + ";" + (b == 1 ? "1a1" : "7a1");
                    is("less x of " + left + ";" + right, Check.made(left + ";" + right, needs, 0, 0, 0).first(1), 0);
                    String swapped = (a == 1 ? "1a1" : "7a1") + ";" + (b == 1 ? "0a1" : "7a1");
                    is("less x of " + right + ";" + left, Check.made(right + ";" + left, swapped, 0, 0, 0).first(1), 1);
                }
            }
        }
        is("more pull ahead of less x", Check.made("d001;d501", "0a1;1a2", 0, 0, 0).first(1), 1);
    }

    private static void upOnesAreLeftOut() {
        PloughTurns x = Check.made("d001;d101;d209", "0a9;1a5;2a4", 0, 0, 0);
        is("the most wanted", x.up(0, 0), 1);
        is("the most wanted", x.at(0, 0, 0), 1);
        x.event(0, 0, 0);
        is("then the next", x.at(0, 1, 0), 1);
        x.event(0, 0, 0);
        is("then the last", x.at(0, 2, 0), 1);
        x.event(0, 0, 0);
        is("nobody is left", x.up(0, 0), 3);
        is("nobody is left", x.at(0, 0, 2), 1);
        is("all were wanted", x.wrongly(), 0);
        // Whose pull is below 0 stays, ploughed as often as may be.
        PloughTurns y = Check.made("c001;d109", "", 0, 0, 0, 0, 0, 0, 0, 23, 0);
        is("nobody comes", y.first(0), NONE);
    }

    private static void romanByHowOften() {
        // The Roman came n times; one of the dead pulls by 4 on night 20, of more x.
        for (int n = 0; n <= 3; n++) {
            PloughTurns x = upAndDown("r001;c109", "", n);
            Check.enter(x, 1, "1u9;1u" + (1 + n));
            x.event(0, 20, 0);
            // In Canada by 9 and 1 and n, less 9, is 1 more than the Roman.
            is("one more than the Roman's " + n, x.at(20, 1, 0), 1);
            PloughTurns y = upAndDown("r009;c109", "", n);
            if (n > 0) {
                Check.enter(y, 1, "1u9;1u" + n);
                y.event(0, 20, 0);
                is("as much as the Roman's " + n, y.at(20, 0, 0), 1);
            }
        }
        // Ahead of that: ahead of this plough, on the same night, too. Both come, are harrowed in, and
        // of the two the Roman pulls by 1, of more x.
        PloughTurns same = Check.made("r101;d001", "", 0, 7, 0, 0, 7, 0, 1, 7, 0, 0, 7, 0);
        is("the Roman, once ahead of that", same.at(7, 0, 0), 1);
        is("the Roman, once ahead of that", same.at(7, 0, 2), 2);
        is("not the other", same.at(7, 1, 0), 0);
        // However much a Roman is wanted, it is how often alone.
        PloughTurns wanted = Check.made("r101;d001", "0a9;0a9;0a9;0a9;0a9;0a9;0a9;0a9", 0, 23, 0);
        is("not by how much the Roman is wanted", wanted.first(1), 1);
    }

    /** How often one came makes no pull but of a Roman. */
    private static void othersNotByHowOften() {
        for (String sort : new String[] {"d", "c"}) {
            // Wanted on the nights 0 and 1 by 3 one comes both times; on night 2 both are wanted by 1.
            PloughTurns x = Check.made(sort + "101;" + sort + "001", "0a3;0b3;0c1;1c1",
                0, 0, 0, 1, 0, 0, 0, 1, 0, 1, 1, 0, 0, 2, 0);
            is("came twice", x.at(2, 0, 2), 2);
            is("of like ones the one of less x, sort " + sort, x.at(2, 1, 0), 1);
        }
    }

    private static void needsOfTheSameOneAreMetTogether() {
        PloughTurns x = Check.made("d001", "0a1;0b1;0c1;0d1;0e1;0a9;0d9;0x1", 0, 3, 0);
        long[] due = {3, 3, 3, 3, NONE, 3, 3, NONE};
        for (int need = 0; need < 8; need++) {
            is("met with others", x.met(need), due[need]);
        }
        is("wanted by the rest", x.at(4, 0, 1), 1);
        is("wanted by the rest", x.at(23, 0, 1), 10);
    }

    private static void whoIsUpMeetsNone() {
        PloughTurns x = Check.made("r001", "0c1", 0, 1, 0, 0, 2, 0, 0, 3, 0);
        is("up already", x.met(0), NONE);
        is("came once", x.at(23, 0, 2), 1);
        x.event(1, 5, 0);
        is("not by the harrow", x.met(0), NONE);
        x.event(0, 5, 0);
        is("come again", x.met(0), 5);
        is("wanted that time", x.wrongly(), 1);
    }

    private static void harrowAllOfOneFurrow() {
        PloughTurns x = Check.made("r001;r201;r501;r011;r051", "",
            0, 0, 0, 0, 0, 0, 0, 0, 0, 0, 0, 1, 0, 0, 5, 1, 3, 0);
        is("all of the furrow", x.up(2, 0), 5);
        is("two of the others", x.up(3, 0), 2);
        is("one of furrow 1", x.at(3, 3, 0), 1);
        is("one of furrow 5", x.at(3, 4, 0), 1);
        x.event(1, 23, 5);
        is("on the last night", x.up(22, 0), 2);
        is("on the last night", x.up(23, 0), 1);
        PloughTurns y = Check.made("r001", "", 1, 0, 0, 0, 0, 0, 1, 3, 1);
        is("of nobody who is up", y.stood(0), 24);
        is("a harrow brings nobody", Check.made("r001", "0a9", 1, 0, 0, 1, 23, 0).first(0), NONE);
        // In their cells: they come from where they lay.
        PloughTurns z = Check.made("r301", "", 0, 0, 0, 1, 1, 0, 0, 2, 0);
        is("in its cell", z.field(2, 3, 0), 0);
    }

    private static void eventsByTheirNumbers() {
        // P, H, P, H on one night.
        PloughTurns x = upAndDown("r001", "", 1);
        x.event(0, 0, 0);
        is("ploughed last", x.up(0, 0), 1);
        x.event(1, 0, 0);
        is("harrowed last", x.up(0, 0), 0);
        is("came twice", x.at(0, 0, 2), 2);
        // Later nights told first.
        PloughTurns y = Check.made("r001", "", 1, 23, 0, 0, 22, 0, 1, 1, 0, 0, 0, 0);
        is("night 0", y.at(0, 0, 0), 1);
        is("night 1", y.at(1, 0, 0), 0);
        is("night 22", y.at(22, 0, 0), 1);
        is("night 23", y.at(23, 0, 0), 0);
        is("stood", y.stood(0), 2);
    }

    // ---- promise 11

    private static void atUpFromFirstToLastNight() {
        PloughTurns first = Check.made("r001", "", 0, 0, 0, 1, 23, 0);
        PloughTurns last = Check.made("r001", "", 0, 23, 0);
        for (int night = 0; night < 24; night++) {
            is("11 up from night 0", first.at(night, 0, 0), night < 23 ? 1 : 0);
            is("11 up on night 23", last.at(night, 0, 0), night < 23 ? 0 : 1);
            is("11 how often from night 0", first.at(night, 0, 2), 1);
            is("11 how often by night 23", last.at(night, 0, 2), night < 23 ? 0 : 1);
        }
    }

    private static void atWantedUpToNine() {
        for (int from = 0; from < 24; from++) {
            for (int much = 1; much <= 9; much += 4) {
                PloughTurns x = Check.made("c009", "0" + (char) ('a' + from) + much);
                for (int night = 0; night < 24; night++) {
                    int due = night < from ? 0 : Math.min(9, much + night - from);
                    is("11 wanted from " + from + " by " + much, x.at(night, 0, 1), due);
                }
            }
        }
        PloughTurns all = Check.made("c009;c101", "0a9;0a9;0a9;0a9;0a9;0a9;0a9;0a9");
        is("11 wanted by eight", all.at(0, 0, 1), 72);
        is("11 wanted by eight", all.at(23, 0, 1), 72);
        is("11 wanted by none", all.at(23, 1, 1), 0);
        // Yet: behind the night on which the need is met it is wanted no more; a later need counts anew.
        PloughTurns x = Check.made("d001", "0a1;0d3", 0, 2, 0);
        Check.are("11 wanted yet", Check.nights(x, 0, 1, 5), 1, 2, 0, 3, 4, 5);
    }

    private static void atHowOften() {
        PloughTurns x = upAndDown("r001", "", 4);
        Check.are("11 how often", Check.nights(x, 0, 2, 5), 1, 2, 3, 4, 4, 4);
        Check.are("11 up behind no night", Check.nights(x, 0, 0, 5), 0, 0, 0, 0, 0, 0);
        PloughTurns y = Check.made("r001", "",
            0, 23, 0, 1, 23, 0, 0, 23, 0, 1, 23, 0, 0, 23, 0, 1, 23, 0, 0, 23, 0, 1, 23, 0);
        is("11 four times on a night", y.at(23, 0, 2), 4);
        is("11 none ahead of it", y.at(22, 0, 2), 0);
        PloughTurns z = Check.made(ROMANS, "", 0, 5, 1, 0, 5, 1);
        is("11 of the eighth", z.at(5, 7, 2), 1);
        is("11 of the seventh", z.at(5, 6, 2), 1);
        is("11 of the sixth", z.at(5, 5, 2), 0);
        // The last of eight who come is told as the first.
        PloughTurns all = Check.made(ROMANS, "",
            0, 0, 0, 0, 0, 0, 0, 0, 0, 0, 0, 0, 0, 0, 0, 0, 0, 0, 0, 0, 1, 0, 23, 1);
        for (int one = 0; one < 8; one++) {
            is("11 each of eight came once", all.at(23, one, 2), 1);
            is("11 all but the last by night 22", all.at(22, one, 2), one < 7 ? 1 : 0);
        }
    }

    private static void atRefusesBad() {
        PloughTurns x = year();
        for (int number : BAD_NIGHTS) {
            Check.refused("11 night " + number, x, BAD, () -> x.at(number, 0, 0));
            Check.refused("11 one " + number, x, BAD, () -> x.at(0, number, 0));
            Check.refused("11 what " + number, x, BAD, () -> x.at(0, 0, number));
        }
        is("11 one 4", x.at(0, 4, 0), BAD);
        is("11 what 3", x.at(0, 0, 3), BAD);
        is("11 one 3 is there", x.at(23, 3, 2), 1);
        is("11 no ninth", Check.made(ROMANS, "").at(0, 8, 0), BAD);
        is("11 nobody", Check.made("", "0a1").at(0, 0, 1), BAD);
        is("11 nobody of a faulty text", Check.made("r001;", "0a1").at(0, 0, 1), BAD);
    }

    // ---- promise 12

    private static void fieldInEachCell() {
        for (int cell = 0; cell < 36; cell++) {
            int fx = cell % 6, fy = cell / 6;
            PloughTurns x = Check.made("r" + fx + "" + fy + "1", "", 0, 1, fy, 1, 23, fy);
            is("12 not yet", x.field(0, fx, fy), NONE);
            is("12 up", x.field(1, fx, fy), 0);
            is("12 up", x.field(22, fx, fy), 0);
            is("12 not any more", x.field(23, fx, fy), NONE);
            is("12 beside", x.field(1, (fx + 1) % 6, fy), NONE);
            is("12 beside", x.field(1, fx, (fy + 1) % 6), NONE);
        }
        PloughTurns all = Check.made(ROMANS, "",
            0, 0, 0, 0, 0, 0, 0, 0, 0, 0, 0, 0, 0, 0, 0, 0, 0, 0, 0, 0, 1, 0, 0, 1);
        for (int one = 0; one < 8; one++) {
            is("12 each in its cell", all.field(0, one % 6, one / 6), one);
        }
        is("12 none of eight", all.field(0, 2, 1), NONE);
        is("12 none of eight", all.field(23, 5, 5), NONE);
        is("12 nobody told", new PloughTurns().field(23, 5, 5), NONE);
        PloughTurns faulty = Check.made("r001;", "", 0, 0, 0);
        is("12 nobody of a faulty text", faulty.field(0, 0, 0), NONE);
    }

    private static void fieldRefusesBad() {
        PloughTurns x = year();
        for (int number : BAD_NIGHTS) {
            Check.refused("12 night " + number, x, BAD, () -> x.field(number, 0, 0));
            Check.refused("12 x " + number, x, BAD, () -> x.field(0, number, 0));
            Check.refused("12 y " + number, x, BAD, () -> x.field(0, 0, number));
        }
        is("12 x 6", x.field(0, 6, 0), BAD);
        is("12 y 6", x.field(0, 0, 6), BAD);
        is("12 bad where nobody is", new PloughTurns().field(24, 0, 0), BAD);
    }

    // ---- promise 13

    private static void upFromNoneToEight() {
        PloughTurns x = Check.made(ROMANS, "");
        for (int n = 0; n < 8; n++) {
            is("13 up", x.up(n, 0), n);
            is("13 up on the last night", x.up(23, 0), n);
            x.event(0, n, n < 6 ? 0 : 1);
        }
        is("13 eight", x.up(7, 0), 8);
        is("13 eight", x.up(23, 0), 8);
        is("13 one behind night 0", x.up(0, 0), 1);
    }

    private static void openFromNoneToEight() {
        PloughTurns x = Check.made("d001", "0a1;1b1;1c1;1d1;1e1;1f1;1g1;7x1");
        int[] due = {1, 2, 3, 4, 5, 6, 7, 7};
        for (int night = 0; night < 8; night++) {
            is("13 open", x.up(night, 1), due[night]);
        }
        is("13 open", x.up(22, 1), 7);
        is("13 all are open", x.up(23, 1), 8);
        x.event(0, 23, 0);
        is("13 the one met is not", x.up(23, 1), 7);
        is("13 it was ahead of that", x.up(22, 1), 7);
        x.back();
        x.event(0, 0, 0);
        is("13 met on its night", x.up(0, 1), 0);
        is("13 none", new PloughTurns().up(0, 1), 0);
    }

    private static void upRefusesBad() {
        PloughTurns x = year();
        for (int number : BAD_NIGHTS) {
            Check.refused("13 night " + number, x, BAD, () -> x.up(number, 0));
            Check.refused("13 what " + number, x, BAD, () -> x.up(0, number));
        }
        is("13 what 2", x.up(0, 2), BAD);
        is("13 both", x.up(24, 2), BAD);
    }

    // ---- promise 14

    private static void metFromFirstToLastNight() {
        for (int night = 0; night < 24; night++) {
            PloughTurns x = Check.made("d001", "0a1;0x1;0" + (char) ('a' + night) + "1", 0, night, 0);
            is("14 met on night " + night, x.met(0), night);
            is("14 from the last night on", x.met(1), night < 23 ? NONE : 23);
            is("14 from this night on", x.met(2), night);
        }
        is("14 a night too early", Check.made("d001", "0f1", 0, 4, 0).met(0), NONE);
        // By the first who comes, not by one who comes later.
        PloughTurns x = Check.made("d001", "0a1", 0, 2, 0, 1, 3, 0, 0, 4, 0);
        is("14 the first time", x.met(0), 2);
        is("14 no need is met of one under the earth", Check.made("c009", "0a1", 0, 1, 0).met(0), NONE);
    }

    private static void metOfWhoIsNotThere() {
        for (int who = 1; who <= 7; who++) {
            PloughTurns x = Check.made("r001", who + "a9", 0, 0, 0, 0, 1, 0);
            is("14 of " + who + " who is not there", x.met(0), NONE);
            is("14 it is open", x.up(23, 1), 1);
            is("14 who comes comes wrongly", x.wrongly(), 1);
        }
        PloughTurns faulty = Check.made("r001;", "0a9", 0, 0, 0);
        is("14 of nobody", faulty.met(0), NONE);
        is("14 of the eighth", Check.made(ROMANS, "7a1", 0, 8, 1, 0, 9, 1).met(0), 9);
    }

    private static void metRefusesBad() {
        PloughTurns x = year();
        for (int number : Check.FAR_OFF) {
            Check.refused("14 met " + number, x, BAD, () -> x.met(number));
        }
        is("14 need 3", x.met(3), 2);
        is("14 need 4", x.met(4), BAD);
        is("14 need 7 of eight", Check.made("", Check.FULL_NEEDS).met(7), NONE);
        is("14 need 8 of eight", Check.made("", Check.FULL_NEEDS).met(8), BAD);
        is("14 no needs", Check.made("r001", "").met(0), BAD);
        is("14 no needs of a faulty text", Check.made("r001", "0a1;").met(0), BAD);
    }

    // ---- promise 15

    private static void stoodFromNoneToAll() {
        for (int from = 0; from < 24; from++) {
            PloughTurns x = Check.made("r001", "", 0, from, 0);
            is("15 stood from " + from, x.stood(0), 24 - from);
            x.event(1, 23, 0);
            is("15 harrowed on the last", x.stood(0), 23 - from);
            x.event(1, from, 0);
            is("15 harrowed on the same", x.stood(0), 0);
        }
        is("15 never came", Check.made("c009", "", 0, 0, 0).stood(0), 0);
        PloughTurns x = Check.made(ROMANS, "", 0, 0, 1, 0, 1, 1, 1, 20, 1, 0, 23, 1);
        is("15 twice", x.stood(6), 21);
        is("15 once", x.stood(7), 19);
        is("15 of another furrow", x.stood(0), 0);
    }

    private static void stoodRefusesBad() {
        PloughTurns x = year();
        for (int number : Check.FAR_OFF) {
            Check.refused("15 stood " + number, x, BAD, () -> x.stood(number));
        }
        is("15 one 3", x.stood(3), 22);
        is("15 one 4", x.stood(4), BAD);
        is("15 no ninth", Check.made(ROMANS, "").stood(8), BAD);
        is("15 nobody", new PloughTurns().stood(0), BAD);
        is("15 nobody of a faulty text", Check.made("r001;", "").stood(0), BAD);
    }

    // ---- promise 16

    private static void wronglyFromNoneToEight() {
        PloughTurns x = Check.made(ROMANS, "");
        for (int n = 0; n < 8; n++) {
            is("16 wrongly", x.wrongly(), n);
            x.event(0, 23 - n, n < 6 ? 0 : 1);
        }
        is("16 eight", x.wrongly(), 8);
        Check.enter(x, 1, "0a1;1a1;2a1;3a1;4a1;5a1;6a1;7a1");
        is("16 none where all are wanted", x.wrongly(), 0);
        is("16 all are met", x.count(5), 8);
        is("16 four times the same", upAndDown("r001", "", 4).wrongly(), 4);
        is("16 nobody", new PloughTurns().wrongly(), 0);
        is("16 nobody comes", Check.made("c009", "", 0, 0, 0).wrongly(), 0);
    }

    private static void wronglyAtTheEdgeOfWant() {
        for (int night = 0; night < 24; night++) {
            PloughTurns x = Check.made("r001", "0m1", 0, night, 0);
            is("16 wanted from night 12 on, come on " + night, x.wrongly(), night < 12 ? 1 : 0);
        }
        is("16 another is wanted", Check.made("r001;c109", "1a1", 0, 3, 0).wrongly(), 1);
        is("16 the second time", Check.made("r001", "0a1", 0, 0, 0, 1, 0, 0, 0, 0, 0).wrongly(), 1);
        is("16 twice on a night", Check.made("r001", "", 0, 0, 0, 1, 0, 0, 0, 0, 0).wrongly(), 2);
        is("16 wanted again", Check.made("r001", "0a1;0b1", 0, 0, 0, 1, 0, 0, 0, 1, 0).wrongly(), 0);
        is("16 one of the dead", Check.made("d001", "", 0, 0, 0).wrongly(), 1);
    }

    // ---- promise 17

    private static void firstOnEachNight() {
        for (int night = 0; night < 24; night++) {
            PloughTurns x = Check.made("c009;r501", "", 0, night, 0, 0, 23, 0);
            is("17 the night", x.first(0), night);
            is("17 who", x.first(1), 1);
        }
        PloughTurns none = Check.made("c009;d109", "", 0, 0, 0, 1, 1, 0, 0, 23, 1);
        is("17 nobody came", none.first(0), NONE);
        is("17 nobody came", none.first(1), NONE);
        PloughTurns faulty = Check.made("r001;", "", 0, 0, 0);
        is("17 nobody of a faulty text", faulty.first(0), NONE);
        is("17 nobody of a faulty text", faulty.first(1), NONE);
    }

    private static void firstIsByTheOrderOfEvents() {
        PloughTurns x = Check.made("r001;r011", "", 0, 23, 0, 0, 5, 1, 0, 5, 0);
        is("17 the first night", x.first(0), 5);
        is("17 the first on it", x.first(1), 1);
        PloughTurns y = Check.made("r001;r011", "", 0, 23, 1, 0, 5, 0, 0, 5, 1);
        is("17 the first on it", y.first(1), 0);
        PloughTurns z = Check.made("r001;r011", "", 0, 0, 2, 1, 0, 0, 0, 0, 1, 1, 0, 1, 0, 0, 0);
        is("17 who is harrowed in again", z.first(1), 1);
    }

    private static void firstRefusesBad() {
        PloughTurns x = year();
        for (int number : Check.FAR_OFF) {
            Check.refused("17 first " + number, x, BAD, () -> x.first(number));
        }
        is("17 first 2", x.first(2), BAD);
        is("17 bad where nobody came", new PloughTurns().first(2), BAD);
    }

    // ---- promises 18 and 19

    private static void gateOfLikeOnes() {
        is("18 the least of all", Check.made(ROMANS, "", 0, 0, 1, 0, 0, 1, 0, 0, 0).gate(), 0);
        is("18 the least of two", Check.made(ROMANS, "", 0, 0, 1, 0, 0, 1).gate(), 6);
        is("18 the last alone", Check.made("r101;r001", "", 0, 0, 0).gate(), 1);
        // 7 comes twice: the first time 6 comes ahead, then both are harrowed in.
        PloughTurns x = Check.made(ROMANS, "", 0, 0, 1, 0, 0, 1, 1, 1, 1, 0, 2, 1, 0, 2, 1);
        is("18 like ones by two", x.gate(), 6);
        x.event(0, 3, 0);
        is("18 once is less than twice", x.gate(), 6);
        PloughTurns y = Check.made("d001;r101", "0a1", 0, 0, 0, 0, 0, 0, 1, 1, 0, 0, 2, 0);
        is("18 more often ahead of the least", y.gate(), 1);
        y.back();
        is("18 the least of like ones", y.gate(), 0);
        y.event(1, 3, 0);
        is("18 harrowed in they came all the same", y.gate(), 0);
    }

    private static void gateOfNobody() {
        is("18 nobody gone", new PloughTurns().gate(), NONE);
        is("18 no events", Check.made(ROMANS, "").gate(), NONE);
        is("18 harrows alone", Check.made(ROMANS, "", 1, 0, 0, 1, 23, 1).gate(), NONE);
        is("18 another furrow", Check.made(ROMANS, "", 0, 0, 5).gate(), NONE);
        is("18 a faulty text", Check.made("r001;", "", 0, 0, 0).gate(), NONE);
    }

    private static void restFromNoneToAll() {
        PloughTurns x = Check.made(ROMANS, "");
        int rest = 255;
        for (int n = 0; n < 8; n++) {
            is("19 rest", x.rest(), rest);
            x.event(0, 23, n < 6 ? 0 : 1);
            rest -= 1 << n;
        }
        is("19 nobody rests", x.rest(), 0);
        PloughTurns y = Check.made("r001;c109", "", 0, 4, 0, 1, 4, 0);
        is("19 who was harrowed in came up", y.rest(), 2);
        is("19 nobody gone", new PloughTurns().rest(), 0);
        is("19 a faulty text", Check.made("c009;", "", 0, 0, 0).rest(), 0);
        is("19 one alone", Check.made("c009", "", 0, 0, 0).rest(), 1);
    }
}
