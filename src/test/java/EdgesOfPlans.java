/** The boundary cases of the promises 20 to 30: plans, what was seen, chances, years. */
public final class EdgesOfPlans {
    private static final int NONE = -1, BAD = -2, FULL = -4;
    private static final int LEAST = Integer.MIN_VALUE, MOST = Integer.MAX_VALUE;
    private static final int[] OUTSIDE = {LEAST, -2, -1, 24, 256, MOST};
    private static final int ALL_SORTS = 7, ALL_FARS = 1022;

    private EdgesOfPlans() {
    }

    public static void main(String[] args) {
        ploughOfNoneIsTheLeast();
        ploughFromFirstToLastFurrow();
        ploughOfLikeOnesTheLeast();
        ploughBehindAllEvents();
        ploughWhateverRoom();
        ploughRefusesBad();
        lieInEachFurrow();
        lieWhereNoOtherLies();
        lieOfLikeOnesTheLeast();
        lieByNoCell();
        lieRefusesBad();
        whenFromFirstToLastNight();
        whenOfNoneIsTheLeast();
        whenBehindAllEvents();
        whenWhateverRoom();
        whenRefusesBad();
        spareNone();
        spareOneFromFirstToLast();
        spareTwoFromFirstToLast();
        spareOfHarrows();
        spareThoughFewerAreMet();
        spareTheLeastRow();
        spareMoreThanTwo();
        spareRefusesBad();
        seenFromLeastToGreatest();
        seenUpToFull();
        seenRefusesBadAheadOfFull();
        forgetFromNoneToEight();
        neverWithNothingSeen();
        neverOfEachAlone();
        neverOfWhoIsNotThere();
        wasEachSortAlone();
        wasEachFarAlone();
        wasOfWhoIsNotThere();
        wasRefusesBad();
        askFromFirstToLastNight();
        askOfLikeNights();
        askWhereThereAreNone();
        askRefusesBad();
        chanceFromNoneToSure();
        chanceOfNoEvents();
        chanceInLowestTerms();
        chanceOfEight();
        chanceRefusesBad();
        yearsOfEachNumber();
        yearsOfEachSeed();
        yearsInPlaceOfThoseTold();
        yearsRefusesBad();
        Check.close();
    }

    private static void is(String call, long got, long due) {
        Check.is(call, got, due);
    }

    private static PloughTurns year() {
        return Check.made("d005;c103;r201;d014", "0a1;1c5;0d9;3b2",
            0, 0, 0, 0, 2, 0, 0, 2, 1, 1, 4, 0, 0, 4, 0);
    }

    private static void ploughIs(String what, PloughTurns x, int night, int furrow, int met) {
        is("20 " + what, x.plough(night, 0), furrow);
        is("20 " + what + ", how many", x.plough(night, 1), met);
    }

    private static void whenIs(String what, PloughTurns x, int furrow, int night, int met) {
        is("22 " + what, x.when(furrow, 0), night);
        is("22 " + what + ", how many", x.when(furrow, 1), met);
    }

    private static void lieIs(String what, PloughTurns x, int one, long... due) {
        long[] got = {x.lie(one, 0), x.lie(one, 1), x.lie(one, 2)};
        Check.are("21 " + what, got, due);
    }

    private static void spareIs(String what, PloughTurns x, long... due) {
        long[] got = {x.spare(NONE), x.spare(0), x.spare(1)};
        Check.are("23 " + what, got, due);
    }

    private static void chanceIs(String what, PloughTurns x, int c, int need, long above, long below) {
        is("29 " + what + ", above", x.chance(c, need, 0), above);
        is("29 " + what + ", below", x.chance(c, need, 1), below);
    }

    // ---- promise 20

    private static void ploughOfNoneIsTheLeast() {
        ploughIs("of a new object", new PloughTurns(), 0, 0, 0);
        ploughIs("of a new object", new PloughTurns(), 23, 0, 0);
        ploughIs("of no needs", Check.made("d055", ""), 4, 0, 0);
        ploughIs("of nobody gone", Check.made("", "0a9"), 4, 0, 0);
        ploughIs("of who is not there", Check.made("r051", "1a9"), 4, 0, 0);
        ploughIs("of who is too far", Check.made("c059", "0a1"), 7, 0, 0);
        ploughIs("of who is near enough", Check.made("c059", "0a1"), 8, 5, 1);
        ploughIs("of what is met anyhow", Check.made("d051", "0a1", 0, 3, 5), 9, 0, 1);
    }

    private static void ploughFromFirstToLastFurrow() {
        for (int furrow = 0; furrow < 6; furrow++) {
            PloughTurns x = Check.made("r0" + furrow + "1", "0a1;0x1");
            ploughIs("furrow " + furrow, x, 0, furrow, 1);
            ploughIs("furrow " + furrow, x, 22, furrow, 1);
            ploughIs("furrow " + furrow + " on the last night", x, 23, furrow, 2);
        }
        PloughTurns all = Check.made("d051", "0a1;0a1;0a1;0a1;0a1;0a1;0a1;0a1");
        ploughIs("eight at once", all, 0, 5, 8);
    }

    private static void ploughOfLikeOnesTheLeast() {
        PloughTurns x = Check.made("r051;r021;r031", "0a1;1a1;2a1");
        ploughIs("the least of three", x, 0, 2, 1);
        x.event(0, 0, 2);
        ploughIs("the least of the two left", x, 0, 3, 2);
        x.event(0, 0, 3);
        ploughIs("the last left", x, 0, 5, 3);
        x.event(0, 0, 5);
        ploughIs("none left", x, 0, 0, 3);
        PloughTurns y = Check.made("r051;r021;r031", "0a1;1a1;2a1;0b1");
        ploughIs("most ahead of least", y, 1, 5, 2);
        ploughIs("not yet most", y, 0, 2, 1);
    }

    private static void ploughBehindAllEvents() {
        // Behind the harrow of the night one comes again; ahead of it one is up.
        PloughTurns x = Check.made("r021", "0c1", 0, 0, 2, 1, 5, 2);
        ploughIs("ahead of the harrow's night", x, 4, 0, 0);
        ploughIs("behind the harrow", x, 5, 2, 1);
        x.event(0, 5, 2);
        ploughIs("who came behind it", x, 5, 0, 1);
        // Behind all of the night, ahead of those of the next, which the plough may spoil.
        PloughTurns y = Check.made("r021", "0h1;0f1", 0, 7, 2);
        ploughIs("met by night 7 anyhow", y, 4, 0, 2);
        // From furrow 2 nobody comes by night 7 any more, but furrow 0 does no harm.
        ploughIs("harm is left out", Check.made("r001;r011", "0h1", 0, 7, 0), 3, 1, 1);
        ploughIs("of harm in each furrow ploughed, the least that does none",
            Check.made("r001;r011;r021", "0h1;1h1", 0, 7, 0, 0, 7, 1), 3, 2, 2);
        ploughIs("of harm in every furrow, the least", Check.made("r001;r011;r021;r031;r041;r051",
            "0h1;1h1;2h1;3h1;4h1;5h1", 0, 7, 0, 0, 7, 1, 0, 7, 2, 0, 7, 3, 0, 7, 4, 0, 7, 5), 3, 0, 5);
    }

    private static void ploughWhateverRoom() {
        PloughTurns x = Check.made("r001;r051", "0a1;1x1",
            0, 0, 0, 1, 0, 3, 1, 0, 3, 1, 0, 3, 1, 0, 3, 1, 0, 3, 1, 0, 3, 1, 23, 5);
        ploughIs("a ninth on the last night", x, 23, 5, 2);
        ploughIs("a ninth on the first", x, 0, 0, 1);
        // The eighth is the harrow of night 5: a ninth comes behind it, though that night is its own.
        PloughTurns y = eighthIsTheHarrow();
        ploughIs("behind the harrow, of eight", y, 5, 2, 1);
        ploughIs("ahead of the harrow, of eight", y, 4, 0, 0);
        is("20 still eight", x.count(4), 8);
        is("20 still full", x.event(0, 0, 0), FULL);
        is("20 the eighth is as told", x.back(), 7);
        is("20 met as told", x.count(5), 1);
    }

    /** The Roman comes on night 0, is needed from night 2 on, and harrowed in on night 5 by the eighth. */
    private static PloughTurns eighthIsTheHarrow() {
        return Check.made("r021", "0c1",
            0, 0, 2, 1, 9, 0, 1, 9, 0, 1, 9, 0, 1, 9, 0, 1, 9, 0, 1, 9, 0, 1, 5, 2);
    }

    private static void ploughRefusesBad() {
        PloughTurns x = year();
        for (int number : OUTSIDE) {
            Check.refused("20 night " + number, x, BAD, () -> x.plough(number, 0));
            Check.refused("20 what " + number, x, BAD, () -> x.plough(0, number));
        }
        is("20 what 2", x.plough(0, 2), BAD);
        is("20 both", x.plough(24, 2), BAD);
        is("20 bad of a new object", new PloughTurns().plough(-1, 0), BAD);
    }

    // ---- promise 21

    private static void lieInEachFurrow() {
        for (int furrow = 0; furrow < 6; furrow++) {
            PloughTurns x = Check.made("r551", "", 0, 0, furrow);
            lieIs("furrow " + furrow, x, 0, 0, furrow, 24);
            x.event(0, 23, 5 - furrow);
            lieIs("on the last night, furrow " + (5 - furrow), x, 0, 0, 5 - furrow, 1);
            x.event(1, 0, furrow);
            lieIs("harrowed in at once", x, 0, 0, furrow, 0);
        }
    }

    private static void lieWhereNoOtherLies() {
        // The others have furrow 0 but for one cell, which is own or not.
        int[] six = {0, 0, 0, 0, 1, 0, 0, 2, 0, 0, 3, 0, 0, 4, 0, 0, 5, 0};
        lieIs("the last cell", Check.made("r551;r001;r101;r201;r301;r401", "", six), 0, 5, 0, 19);
        lieIs("the last cell is one's own", Check.made("r501;r001;r101;r201;r301;r401", "", six), 0, 5, 0, 19);
        lieIs("no cell is left", Check.made("r551;r001;r101;r201;r301;r401;r501", "", six), 0, NONE, NONE, NONE);
        lieIs("the first cell", Check.made("r551;r101;r201;r301;r401;r501", "", six), 0, 0, 0, 24);
        // Nobody's cell is kept free but those of others: the own one is as good as any.
        lieIs("own cell, the least", Check.made("r001", "", 0, 9, 0), 0, 0, 0, 15);
        // Of the last of the gone.
        lieIs("of the eighth", Check.made("r001;r101;r201;r301;r401;r501;r011;r551", "", six), 7, NONE, NONE, NONE);
        lieIs("of the eighth", Check.made("r101;r201;r301;r401;r501;r111;r011;r551", "", six), 7, 0, 0, 24);
    }

    private static void lieOfLikeOnesTheLeast() {
        // Furrows 1 and 3 on one night.
        lieIs("least y of least x", Check.made("r551", "", 0, 4, 3, 0, 4, 1), 0, 0, 1, 20);
        // Cell (0, 1) is another's.
        lieIs("then the next y", Check.made("r551;c019", "", 0, 4, 3, 0, 4, 1), 0, 0, 3, 20);
        lieIs("then the next x", Check.made("r551;c019;c039", "", 0, 4, 3, 0, 4, 1), 0, 1, 1, 20);
        lieIs("fewest ahead of least", Check.made("r551", "", 0, 4, 0, 0, 5, 5), 0, 0, 5, 19);
        // By pull alone: of more x than a Roman one comes by the second plough.
        lieIs("fewest by more x", Check.made("r001;r201", "", 0, 4, 0, 0, 9, 0), 0, 3, 0, 15);
        lieIs("fewest by more x, in the last furrow", Check.made("r151;r551", "", 0, 4, 5, 0, 9, 5), 1, 2, 5, 15);
    }

    private static void lieByNoCell() {
        PloughTurns none = Check.made("c009;r101", "0a1", 0, 7, 0, 0, 7, 3, 0, 7, 5);
        lieIs("too far by a night", none, 0, NONE, NONE, NONE);
        lieIs("near enough on night 8", Check.made("c009", "0a1", 0, 8, 4), 0, 0, 4, 16);
        lieIs("no events", Check.made("r001", "0a9"), 0, NONE, NONE, NONE);
        lieIs("harrows alone", Check.made("r001", "0a9", 1, 0, 0, 1, 23, 5), 0, NONE, NONE, NONE);
        PloughTurns x = Check.made("r001", "0a9", 0, 0, 3);
        long before = x.digest();
        lieIs("by another furrow", x, 0, 0, 3, 24);
        is("21 the own cell stays", x.gone(0, 2), 0);
        is("21 nobody came", x.first(0), NONE);
        is("21 nothing is changed", x.digest(), before);
    }

    private static void lieRefusesBad() {
        PloughTurns x = year();
        for (int number : OUTSIDE) {
            Check.refused("21 one " + number, x, BAD, () -> x.lie(number, 0));
            Check.refused("21 what " + number, x, BAD, () -> x.lie(0, number));
        }
        is("21 one 4", x.lie(4, 0), BAD);
        is("21 what 3", x.lie(3, 3), BAD);
        is("21 nobody", new PloughTurns().lie(0, 2), BAD);
        is("21 nobody of a faulty text", Check.made("r001;", "", 0, 0, 0).lie(0, 0), BAD);
        is("21 bad where no cell is", Check.made("r001", "").lie(0, 3), BAD);
    }

    // ---- promise 22

    private static void whenFromFirstToLastNight() {
        for (int night = 0; night < 24; night++) {
            PloughTurns x = Check.made("r051", "0" + (char) ('a' + night) + "1");
            whenIs("from night " + night, x, 5, night, 1);
        }
        PloughTurns all = Check.made("r001", "0a1;0a1;0a1;0a1;0x1;0x1;0x1;0x1");
        whenIs("most on the last night", all, 0, 23, 8);
        all.event(0, 23, 0);
        whenIs("the least of like ones that do no harm", all, 0, 23, 8);
        whenIs("where another comes, no night does harm", Check.made("c001;r101", "0x2", 0, 23, 0), 0, 0, 1);
        // Whoever comes earlier is up already on night 23.
        whenIs("each but the last does harm", Check.made("r001", "0x2", 0, 23, 0), 0, 23, 1);
    }

    private static void whenOfNoneIsTheLeast() {
        for (int furrow = 0; furrow < 6; furrow++) {
            whenIs("of a new object", new PloughTurns(), furrow, 0, 0);
            whenIs("of no needs", Check.made("r031", ""), furrow, 0, 0);
        }
        whenIs("of another furrow", Check.made("r031", "0a1", 0, 4, 3), 2, 0, 1);
        whenIs("of who is never near enough", Check.made("c009;r109", "0x8"), 0, 0, 0);
    }

    private static void whenBehindAllEvents() {
        PloughTurns x = Check.made("r021", "0c1", 0, 0, 2, 1, 5, 2);
        whenIs("behind the harrow of night 5", x, 2, 5, 1);
        x.event(1, 3, 2);
        whenIs("behind the harrow of night 3", x, 2, 3, 1);
        x.event(0, 3, 2);
        whenIs("met anyhow, no harm on night 0", x, 2, 0, 1);
    }

    private static void whenWhateverRoom() {
        PloughTurns x = Check.made("r001;r051", "0a1;1x1",
            0, 0, 0, 1, 0, 3, 1, 0, 3, 1, 0, 3, 1, 0, 3, 1, 0, 3, 1, 0, 3, 1, 23, 5);
        whenIs("a ninth on the last night", x, 5, 23, 2);
        whenIs("a ninth behind the harrow", eighthIsTheHarrow(), 2, 5, 1);
        is("22 still eight", x.count(4), 8);
        is("22 the eighth is as told", x.back(), 7);
        is("22 met as told", x.count(5), 1);
    }

    private static void whenRefusesBad() {
        PloughTurns x = year();
        for (int number : OUTSIDE) {
            Check.refused("22 furrow " + number, x, BAD, () -> x.when(number, 0));
            Check.refused("22 what " + number, x, BAD, () -> x.when(0, number));
        }
        is("22 furrow 6", x.when(6, 0), BAD);
        is("22 what 2", x.when(5, 2), BAD);
        is("22 both", x.when(6, 2), BAD);
    }

    // ---- promise 23

    private static final int[][] IDLE = {{1, 0, 4}, {1, 9, 4}, {1, 23, 4}};

    /** Eight events, harrows of a furrow where nobody lies but for the ploughs named by their numbers. */
    private static PloughTurns ploughsAt(int... ploughs) {
        PloughTurns x = Check.made("r001;r011;r021", "");
        for (int e = 0; e < 8; e++) {
            int furrow = NONE;
            for (int k = 0; k < ploughs.length; k++) {
                furrow = ploughs[k] == e ? k : furrow;
            }
            int[] idle = IDLE[e % 3];
            if (furrow == NONE) {
                x.event(idle[0], idle[1], idle[2]);
            } else {
                x.event(0, 12, furrow);
            }
        }
        return x;
    }

    private static void spareNone() {
        spareIs("of no events", new PloughTurns(), 0, NONE, NONE);
        spareIs("of eight that bring nobody", ploughsAt(), 0, NONE, NONE);
        spareIs("of who is wanted", Check.made("r001", "0a1", 0, 0, 0), 0, NONE, NONE);
    }

    private static void spareOneFromFirstToLast() {
        for (int e = 0; e < 8; e++) {
            spareIs("event " + e, ploughsAt(e), 1, e, NONE);
        }
        // Without the first plough the second is not wrong, without the second the first is not.
        spareIs("the least of two rows", Check.made("r001", "0a1", 0, 0, 0, 1, 1, 0, 0, 2, 0), 1, 0, NONE);
        // Without the harrow the second plough brings nobody.
        PloughTurns x = Check.made("r001", "0b1", 0, 2, 0, 1, 3, 0, 0, 4, 0);
        spareIs("the least of three rows", x, 1, 0, NONE);
        PloughTurns y = Check.made("d001;r109", "0a3;0e1", 0, 2, 0, 1, 3, 0, 0, 4, 0, 0, 4, 0);
        spareIs("the last by its night", y, 1, 2, NONE);
        // By numbers, not by nights.
        spareIs("the least by number", Check.made("r001", "0a1", 0, 9, 0, 0, 2, 0, 1, 5, 0), 1, 0, NONE);
    }

    private static void spareTwoFromFirstToLast() {
        for (int first = 0; first < 8; first++) {
            for (int second = first + 1; second < 8; second++) {
                spareIs("events " + first + " and " + second, ploughsAt(first, second), 2, first, second);
                spareIs("events " + second + " and " + first, ploughsAt(second, first), 2, first, second);
            }
        }
        PloughTurns x = ploughsAt(6, 7);
        long before = x.digest();
        is("23 how many", x.spare(NONE), 2);
        is("23 nothing is changed", x.digest(), before);
        is("23 still eight", x.count(4), 8);
    }

    /** A harrow may be what had better not be, alone, with another, or with a plough. */
    private static void spareOfHarrows() {
        // Two come rightly, and both wrongly behind the harrow, by whichever plough one goes without.
        spareIs("a harrow", Check.made("d001;d101", "0a1;1a1",
            0, 0, 0, 0, 0, 0, 1, 1, 0, 0, 2, 0, 0, 2, 0), 1, 2, NONE);
        spareIs("two harrows", Check.made("d001;d101", "0a1;1a1",
            1, 1, 0, 1, 1, 0, 0, 0, 0, 0, 0, 0, 0, 2, 0, 0, 2, 0), 2, 0, 1);
        spareIs("a harrow and a plough", Check.made("d001;d101;r051", "0a1;1a1",
            0, 0, 0, 0, 0, 0, 1, 1, 0, 0, 2, 0, 0, 2, 0, 0, 3, 5), 2, 2, 5);
    }

    private static void spareThoughFewerAreMet() {
        // The Roman comes wrongly ahead of 1, who is met; without the first plough by the second.
        PloughTurns x = Check.made("r001;c101", "1b1", 0, 0, 0, 0, 1, 0);
        is("23 one is met", x.count(5), 1);
        spareIs("both, though none is met then", x, 2, 0, 1);
    }

    private static void spareTheLeastRow() {
        // Of one furrow any of 0 to 2 may go, of the other any of 3 to 5.
        spareIs("the first of each", Check.made("d001;d011", "0a1;1a1",
            0, 0, 0, 1, 1, 0, 0, 2, 0, 0, 0, 1, 1, 1, 1, 0, 2, 1), 2, 0, 3);
        // By the nights: 1, 0, 2, 3, 4. Neither 0 and 1 nor 0 and 2 will do, but 0 and 3, and 1 and 2.
        spareIs("0 and 3 ahead of 1 and 2", Check.made("d001", "0a1",
            1, 1, 0, 0, 0, 0, 0, 1, 0, 1, 1, 0, 0, 2, 0), 2, 0, 3);
    }

    private static void spareMoreThanTwo() {
        spareIs("three at the front", ploughsAt(0, 1, 2), NONE, NONE, NONE);
        spareIs("three at the end", ploughsAt(5, 6, 7), NONE, NONE, NONE);
        PloughTurns x = ploughsAt(0, 3, 7);
        is("23 back makes it two", x.back(), 7);
        spareIs("back makes it two", x, 2, 0, 3);
    }

    private static void spareRefusesBad() {
        PloughTurns x = year();
        for (int number : new int[] {LEAST, -3, -2, 2, 3, 256, MOST}) {
            Check.refused("23 spare " + number, x, BAD, () -> x.spare(number));
        }
        is("23 bad of no events", new PloughTurns().spare(2), BAD);
        is("23 bad where more than two", ploughsAt(0, 1, 2).spare(-2), BAD);
    }

    // ---- promises 24 and 25

    private static void seenFromLeastToGreatest() {
        PloughTurns x = new PloughTurns();
        is("24 the least", x.seen(0, 0, 0), 1);
        is("24 the greatest, of one that is not there", x.seen(23, 7, 1), 2);
        is("24 the same again", x.seen(23, 7, 1), 3);
        is("24 its contrary", x.seen(23, 7, 0), 4);
        is("24 count", x.count(7), 4);
        // Behind the first and the last night.
        PloughTurns y = Check.made("r001", "", 0, 0, 0);
        y.seen(0, 0, 1);
        is("24 up behind night 0", y.was(0, 0), ALL_SORTS - 2);
        y.forget();
        y.seen(23, 0, 1);
        is("24 up behind night 23", y.was(0, 0), ALL_SORTS - 2);
        y.forget();
        y.seen(23, 0, 0);
        is("24 not up behind night 23", y.was(0, 0), 2);
        y.seen(0, 0, 1);
        is("24 both at once", y.was(0, 0), 0);
    }

    private static void seenUpToFull() {
        PloughTurns x = year();
        for (int n = 1; n <= 8; n++) {
            is("24 seen", x.seen(n - 1, 0, n > 4 ? 1 : 0), n);
        }
        Check.refused("24 a ninth", x, FULL, () -> x.seen(0, 0, 0));
        Check.refused("24 a ninth", x, FULL, () -> x.seen(23, 7, 1));
        // All eight are so as told; without the last plough the last four are not.
        is("24 all eight come out", x.was(3, 0) & 1, 1);
        is("24 not without the plough", x.never() & 16, 0);
        is("24 forget makes room", x.forget(), 8);
        is("24 the first again", x.seen(0, 0, 0), 1);
    }

    private static void seenRefusesBadAheadOfFull() {
        PloughTurns x = year();
        PloughTurns full = year();
        for (int n = 0; n < 8; n++) {
            full.seen(23, 0, 1);
        }
        int[][] beside = {{24, 0, 0}, {-1, 0, 0}, {0, 8, 0}, {0, -1, 0}, {0, 0, 2}, {0, 0, -1}, {24, 8, 2},
            {LEAST, 0, 0}, {0, MOST, 0}, {0, 0, LEAST}};
        for (int[] s : beside) {
            Check.refused("24 beside", x, BAD, () -> x.seen(s[0], s[1], s[2]));
            Check.refused("24 bad ahead of full", full, BAD, () -> full.seen(s[0], s[1], s[2]));
        }
        is("24 the next is the first", x.seen(0, 0, 0), 1);
    }

    private static void forgetFromNoneToEight() {
        PloughTurns x = year();
        long before = x.digest();
        is("25 none", x.forget(), 0);
        for (int n = 0; n <= 8; n++) {
            for (int k = 0; k < n; k++) {
                x.seen(k, 7, 1);
            }
            is("25 forget", x.forget(), n);
            is("25 as it was ahead of all", x.digest(), before);
            is("25 none left", x.forget(), 0);
        }
        is("25 events stay", x.count(4), 5);
        is("25 no finding", x.count(8), 0);
    }

    // ---- promise 26

    private static void neverWithNothingSeen() {
        PloughTurns x = new PloughTurns();
        for (int n = 0; n <= 8; n++) {
            is("26 nothing seen, events " + n, x.never(), (1 << n) - 1);
            x.event(1, 0, 0);
        }
    }

    private static void neverOfEachAlone() {
        for (int e = 0; e < 8; e++) {
            PloughTurns x = ploughsAt(e);
            x.seen(23, 0, 0);
            is("26 without " + e + " alone", x.never(), 1 << e);
            x.forget();
            x.seen(12, 0, 1);
            is("26 without any but " + e, x.never(), 255 - (1 << e));
            x.seen(11, 0, 0);
            is("26 all that was seen", x.never(), 255 - (1 << e));
            x.seen(11, 0, 1);
            is("26 all that was seen", x.never(), 0);
        }
        // Either of two ploughs alone is not enough to miss.
        PloughTurns two = Check.made("r001", "", 0, 0, 0, 0, 1, 0);
        two.seen(1, 0, 0);
        is("26 not both at once", two.never(), 0);
        two.forget();
        two.seen(0, 0, 0);
        is("26 the first alone", two.never(), 1);
        is("26 nothing is changed", two.stood(0), 24);
    }

    private static void neverOfWhoIsNotThere() {
        for (int one = 1; one <= 7; one++) {
            for (int up = 0; up < 2; up++) {
                PloughTurns x = Check.made("r001", "", 0, 0, 0);
                x.seen(0, one, up);
                is("26 of " + one + " who is not there", x.never(), 0);
            }
        }
        PloughTurns x = Check.made("r001;r101;r201;r301;r401;r501;r011;r111", "", 0, 0, 0);
        x.seen(0, 7, 0);
        is("26 of the eighth", x.never(), 1);
        x.undo(0);
        is("26 of nobody", x.never(), 0);
        is("26 no events", Check.made("r001", "").never(), 0);
    }

    // ---- promise 27

    /** Who was seen so behind a night, of a field with one more. */
    private static PloughTurns seenOnce(String gone, String needs, int night, int up) {
        PloughTurns x = Check.made(gone, needs, 0, night, 0);
        x.seen(night, 0, up);
        return x;
    }

    private static void wasEachSortAlone() {
        for (String own : new String[] {"d", "c", "r"}) {
            PloughTurns all = Check.made(own + "009", "0a5", 0, 0, 0);
            is("27 all sorts", all.was(0, 0), ALL_SORTS);
            // Dead 5 less 4 is more than 0; in Canada 5 less 9 is not; a Roman is of more x.
            is("27 dead alone", seenOnce(own + "109;r001", "0a5", 0, 1).was(0, 0), 1);
            is("27 all but dead", seenOnce(own + "109;r001", "0a5", 0, 0).was(0, 0), 6);
            is("27 in Canada alone", seenOnce(own + "009", "0a4", 0, 0).was(0, 0), 2);
            is("27 all but in Canada", seenOnce(own + "009", "0a4", 0, 1).was(0, 0), 5);
            is("27 Roman alone", seenOnce(own + "009", "0a3", 0, 1).was(0, 0), 4);
            is("27 all but a Roman", seenOnce(own + "009", "0a3", 0, 0).was(0, 0), 3);
            PloughTurns none = seenOnce(own + "009", "0a9", 0, 0);
            is("27 no sort", none.was(0, 0), 0);
            is("27 the own sort stays", none.gone(0, 0), "dcr".indexOf(own));
        }
    }

    private static void wasEachFarAlone() {
        for (int own = 1; own <= 9; own++) {
            for (int much = 1; much <= 9; much++) {
                // In Canada: up by a far of 1 to as much.
                int near = (1 << (much + 1)) - 2;
                PloughTurns x = seenOnce("c00" + own, "0a" + much, 0, 1);
                is("27 up by " + much, x.was(0, 1), near);
                is("27 not up by " + much, seenOnce("c00" + own, "0a" + much, 0, 0).was(0, 1), ALL_FARS - near);
                is("27 the own far stays", x.gone(0, 3), own);
            }
        }
        // One far alone: near enough on night 5, not on night 4.
        for (int far = 2; far <= 9; far++) {
            PloughTurns x = Check.made("c001", "0a" + (far - 1), 0, 0, 0, 0, 1, 0);
            x.seen(0, 0, 0);
            x.seen(1, 0, 1);
            is("27 far " + far + " alone", x.was(0, 1), 1 << far);
        }
        is("27 a Roman's far is all one", seenOnce("r001", "", 0, 1).was(0, 1), ALL_FARS);
        is("27 a Roman's far is all one", seenOnce("r001", "", 0, 0).was(0, 1), 0);
        is("27 a dead one's half is cut", seenOnce("d001", "", 0, 1).was(0, 1), 2);
        is("27 nothing told, nothing seen", Check.made("c001", "").was(0, 1), ALL_FARS);
    }

    private static void wasOfWhoIsNotThere() {
        for (int up = 0; up < 2; up++) {
            PloughTurns x = Check.made("r001;d101", "", 0, 0, 0);
            x.seen(5, 2, up);
            for (int one = 0; one < 2; one++) {
                is("27 sorts", x.was(one, 0), 0);
                is("27 fars", x.was(one, 1), 0);
            }
        }
    }

    private static void wasRefusesBad() {
        PloughTurns x = year();
        for (int number : OUTSIDE) {
            Check.refused("27 one " + number, x, BAD, () -> x.was(number, 0));
            Check.refused("27 what " + number, x, BAD, () -> x.was(0, number));
        }
        is("27 one 4", x.was(4, 0), BAD);
        is("27 what 2", x.was(3, 2), BAD);
        is("27 nobody", new PloughTurns().was(0, 1), BAD);
        is("27 nobody of a faulty text", Check.made("r001;", "").was(0, 0), BAD);
    }

    // ---- promise 28

    private static void askFromFirstToLastNight() {
        for (int night = 0; night < 24; night++) {
            // Up behind this night alone, by a far of 1 to 5, and harrowed in on the next.
            PloughTurns x = Check.made("c009", "0" + (char) ('a' + night) + "5", 0, night, 0, 1, night, 5);
            if (night < 23) {
                x.event(1, night + 1, 0);
            }
            is("28 ask, night " + night, x.ask(0), night);
        }
        PloughTurns eighth = Check.made("r001;r101;r201;r301;r401;r501;r011;c551", "7x5", 0, 23, 5);
        is("28 of the eighth", eighth.ask(7), 23);
        is("28 of the seventh", eighth.ask(6), 0);
        is("28 nothing is changed", eighth.gone(7, 3), 1);
    }

    private static void askOfLikeNights() {
        // By a far of 1 to much up, by the others not: the least odds, eight to one, are better than none.
        for (int much = 1; much <= 8; much++) {
            is("28 up by 1 to " + much, Check.made("c009", "0r" + much, 0, 17, 0).ask(0), 17);
        }
        is("28 up by all", Check.made("c009", "0r9", 0, 17, 0).ask(0), 0);
        is("28 no events", Check.made("c009", "0a5").ask(0), 0);
        is("28 a Roman's far is all one", Check.made("r001", "", 0, 4, 0).ask(0), 0);
        // 4 and 5 as good as 5 and 4: the least night.
        PloughTurns x = Check.made("c009", "0c4", 0, 2, 0, 0, 3, 0);
        is("28 the least of like ones", x.ask(0), 2);
        PloughTurns y = Check.made("c009", "0c3", 0, 2, 0, 0, 3, 0);
        is("28 the least greatest, 5 ahead of 6", y.ask(0), 3);
        // Night 0: by 1 to 3 it is 0 who comes, by 4 to 9 another. Night 1: by 1 to 4 both are up, by 5 to 9
        // the other alone. Of 0 alone the same is to be seen, but of the third by nobody.
        PloughTurns z = Check.made("c009;c101;r011", "0a3;1a1", 0, 0, 0, 0, 1, 0, 0, 2, 1);
        is("28 by all who are up", z.ask(0), 1);
        is("28 of who makes no odds", z.ask(2), 0);
        // Night 0: by 1 to 5 it is 0 who comes, by 6 to 9 it is 1. Night 2: by 1 to 5 then 2, by 6 alone 0
        // beside 1, by 7 to 9 it is 2 beside 1. Five is the greatest both times, in however many parts.
        PloughTurns parts = Check.made("c009;d101;d201", "0a5;2c1", 0, 0, 0, 0, 2, 0);
        is("28 the greatest alone tells", parts.ask(0), 0);
        parts.seen(2, 2, 1);
        is("28 but for 6, five and three on both nights", parts.was(0, 1), 1022 - 64);
        is("28 but for 6, five and three on both nights", parts.ask(0), 0);
        parts.forget();
        // Of 6 to 9: four alike on night 0, then three and one.
        parts.seen(0, 1, 1);
        is("28 of 6 to 9", parts.ask(0), 2);
    }

    private static void askWhereThereAreNone() {
        PloughTurns x = Check.made("c009", "0f5", 0, 5, 0);
        is("28 ask", x.ask(0), 5);
        x.seen(4, 0, 1);
        is("28 none of these", x.was(0, 1), 0);
        is("28 where there are none", x.ask(0), 0);
        x.forget();
        x.seen(0, 1, 0);
        is("28 of one that is not there", x.ask(0), 0);
        x.forget();
        // One alone: it is 1 behind each night.
        x.event(0, 4, 0);
        Check.enter(x, 1, ";0e4");
        x.seen(4, 0, 0);
        x.seen(5, 0, 1);
        is("28 those left", x.was(0, 1), 1022 - 30);
        is("28 all alike", x.ask(0), 0);
    }

    private static void askRefusesBad() {
        PloughTurns x = year();
        for (int number : OUTSIDE) {
            Check.refused("28 ask " + number, x, BAD, () -> x.ask(number));
        }
        is("28 one 4", x.ask(4), BAD);
        is("28 nobody", new PloughTurns().ask(0), BAD);
        is("28 nobody of a faulty text", Check.made("r001;", "").ask(0), BAD);
    }

    // ---- promise 29

    private static void chanceFromNoneToSure() {
        PloughTurns x = Check.made("d001", "0a1;1a1", 0, 0, 0);
        long[] above = {0, 1, 1, 3, 1, 5, 3, 7, 1, 9, 5, 11, 3, 13, 7, 15, 1};
        long[] below = {1, 16, 8, 16, 4, 16, 8, 16, 2, 16, 8, 16, 4, 16, 8, 16, 1};
        for (int c = 0; c <= 16; c++) {
            chanceIs("by " + c, x, c, 0, above[c], below[c]);
            chanceIs("of who is not there by " + c, x, c, 1, 0, 1);
        }
    }

    private static void chanceOfNoEvents() {
        PloughTurns x = Check.made("d001", Check.FULL_NEEDS);
        for (int need = 0; need < 8; need++) {
            for (int c = 0; c <= 16; c += 8) {
                chanceIs("of no events", x, c, need, 0, 1);
            }
        }
        PloughTurns y = Check.made("", "0a1", 0, 0, 0);
        chanceIs("of nobody", y, 16, 0, 0, 1);
    }

    private static void chanceInLowestTerms() {
        // In Canada it is 0 on night 0, as the Romans' of less x, then more: any plough but the first brings 5.
        PloughTurns x = Check.made("r001;r101;r201;r301;r401;c501", "5a1",
            0, 0, 0, 0, 1, 0, 0, 2, 0, 0, 3, 0, 0, 4, 0, 1, 9, 5, 1, 9, 5);
        chanceIs("of any but the first", x, 8, 0, 15, 16);
        // A Roman of most x comes by the sixth plough alone; two harrows make no odds.
        PloughTurns y = Check.made("r001;r101;r201;r301;r401;r501", "5a1",
            0, 0, 0, 0, 1, 0, 0, 2, 0, 0, 3, 0, 0, 4, 0, 0, 5, 0, 1, 9, 5, 1, 9, 5);
        chanceIs("of six by 1", y, 1, 0, 1, 16777216);
        chanceIs("of six by 15", y, 15, 0, 11390625, 16777216);
        chanceIs("of six by 8", y, 8, 0, 1, 64);
        chanceIs("of six by 4", y, 4, 0, 1, 4096);
        chanceIs("of six by 6", y, 6, 0, 729, 262144);
        chanceIs("of six by 0", y, 0, 0, 0, 1);
        chanceIs("of six by 16", y, 16, 0, 1, 1);
    }

    private static void chanceOfEight() {
        PloughTurns x = Check.made("d001", "0a1",
            0, 0, 0, 0, 1, 0, 0, 2, 0, 0, 3, 0, 0, 4, 0, 0, 5, 0, 0, 6, 0, 0, 7, 0);
        chanceIs("one of eight by 1", x, 1, 0, 1732076671L, 4294967296L);
        chanceIs("one of eight by 15", x, 15, 0, 4294967295L, 4294967296L);
        chanceIs("one of eight by 8", x, 8, 0, 255, 256);
        chanceIs("one of eight by 16", x, 16, 0, 1, 1);
        chanceIs("one of eight by 0", x, 0, 0, 0, 1);
        // What is told changes: the chance is that of what is told now.
        is("29 back", x.back(), 7);
        chanceIs("one of seven by 8", x, 8, 0, 127, 128);
        x.undo(1);
        x.type(1, '9');
        chanceIs("of another need", x, 8, 0, 127, 128);
        x.wipe(0);
        chanceIs("of nobody", x, 8, 0, 0, 1);
        Check.enter(x, 0, "d051");
        chanceIs("of another furrow", x, 8, 0, 0, 1);
        x.event(0, 23, 5);
        chanceIs("of the last night", x, 8, 0, 1, 2);
        // Of each of eight needs, and then of what else is told.
        PloughTurns all = Check.made("d001", "0a1;0b1;0c1;0d1;0e1;0f1;0g1;0h1", 0, 7, 0);
        for (int need = 0; need < 8; need++) {
            chanceIs("of need " + need + " by one", all, 4, need, 1, 4);
        }
        all.event(0, 7, 0);
        for (int need = 0; need < 8; need++) {
            chanceIs("of need " + need + " by either", all, 4, need, 7, 16);
        }
        all.back();
        all.back();
        for (int need = 0; need < 8; need++) {
            chanceIs("of need " + need + " by none", all, 4, need, 0, 1);
        }
        // The harrow ahead of the need's night leaves room to come again.
        PloughTurns y = Check.made("r001", "0f1", 0, 0, 0, 1, 3, 0, 0, 9, 0);
        chanceIs("by a plough, unless up already", y, 8, 0, 3, 8);
        // c 4: the last plough, and the first not, or the first and the harrow: 4 (12 16 + 4 4) by 4096.
        chanceIs("by a plough, unless up already", y, 4, 0, 13, 64);
    }

    private static void chanceRefusesBad() {
        PloughTurns x = year();
        long bad = Long.MIN_VALUE + 2;
        for (int number : OUTSIDE) {
            Check.refused("29 c " + number, x, bad, () -> x.chance(number, 0, 0));
            Check.refused("29 need " + number, x, bad, () -> x.chance(5, number, 0));
            Check.refused("29 what " + number, x, bad, () -> x.chance(5, 0, number));
        }
        is("29 c 17", x.chance(17, 0, 0), bad);
        is("29 need 4", x.chance(16, 4, 0), bad);
        is("29 what 2", x.chance(16, 3, 2), bad);
        is("29 no need", Check.made("r001", "").chance(5, 0, 0), bad);
        is("29 no need of a faulty text", Check.made("r001", "0a1;").chance(5, 0, 1), bad);
    }

    // ---- promise 30

    private static final String LISTENERS = "r001;d014;r021;d033;r041;c052;r101;d211";

    /** The years' events told one by one: with the seed as a number from 0 on, of 32 bits. */
    private static PloughTurns drawn(String needs, int seed, int n) {
        PloughTurns x = Check.made(LISTENERS, needs);
        long s = seed & 0xFFFFFFFFL;
        long[] modulo = {2, 24, 6};
        for (int k = 0; k < n; k++) {
            int[] lot = new int[3];
            for (int j = 0; j < 3; j++) {
                s = (s * 1103515245L + 12345) % 4294967296L;
                lot[j] = (int) (s / 65536 % modulo[j]);
            }
            x.event(lot[0], lot[1], lot[2]);
        }
        return x;
    }

    private static void yearsAreAs(String needs, int seed, int n) {
        PloughTurns x = Check.made(LISTENERS, needs, 0, 0, 0);
        PloughTurns due = drawn(needs, seed, n);
        is("30 events", due.count(4), n);
        is("30 met by " + seed + ", " + n, x.years(seed, n, 0), due.count(5));
        is("30 wrongly by " + seed + ", " + n, x.years(seed, n, 1), due.wrongly());
    }

    private static void yearsOfEachNumber() {
        for (int seed = 0; seed < 40; seed++) {
            for (int n = 0; n <= 8; n++) {
                yearsAreAs("0a1;1a1;2c1;3d1;4e1;5a9;6h1", seed, n);
            }
        }
    }

    private static void yearsOfEachSeed() {
        int[] seeds = {LEAST, LEAST + 1, -65537, -65536, -65535, -12345, -1, 0, 1, 65535, 65536, MOST - 1, MOST,
            1103515245, -1103515245, 123456789, -987654321};
        for (int seed : seeds) {
            yearsAreAs("0a1;1a1;2c1;3d1;4e1;5a9;6h1;7b2", seed, 8);
            yearsAreAs("", seed, 8);
            yearsAreAs("0a1", seed, 1);
        }
        // Seed 0: 12345, whose upper bits are 0; then 3554416254, then 2802067423: a plough on night 4 of
        // furrow 0 (54236 modulo 24 is 20, 42756 modulo 6 is 0).
        PloughTurns x = Check.made("r001;r051", "0u1");
        is("30 by hand", x.years(0, 1, 0), 1);
        is("30 by hand", x.years(0, 1, 1), 0);
        is("30 by hand, a night too early", Check.made("r001", "0v1").years(0, 1, 1), 1);
        is("30 by hand, a night too early", Check.made("r001", "0v1").years(0, 1, 0), 0);
    }

    private static void yearsInPlaceOfThoseTold() {
        PloughTurns x = year();
        long before = x.digest();
        is("30 no events", x.years(5, 0, 0), 0);
        is("30 no events", x.years(5, 0, 1), 0);
        x.years(5, 8, 0);
        x.years(6, 8, 1);
        is("30 those told stay", x.digest(), before);
        is("30 those told stay", x.count(4), 5);
        is("30 of nobody", new PloughTurns().years(0, 8, 1), 0);
        is("30 of nobody", Check.made("", "0a1").years(0, 8, 0), 0);
    }

    private static void yearsRefusesBad() {
        PloughTurns x = year();
        for (int number : new int[] {LEAST, -2, -1, 9, 256, MOST}) {
            Check.refused("30 n " + number, x, BAD, () -> x.years(7, number, 0));
            Check.refused("30 what " + number, x, BAD, () -> x.years(7, 6, number));
        }
        is("30 what 2", x.years(7, 8, 2), BAD);
        is("30 both", x.years(LEAST, 9, 2), BAD);
        is("30 bad of a new object", new PloughTurns().years(0, -1, 0), BAD);
    }
}
