import java.util.function.LongSupplier;

/** Counts the answers that are due and those that are not. */
final class Check {
    static final String FULL_GONE = "d001;c105;r209;d302;c401;r503;d011;c119";
    static final String FULL_NEEDS = "0a1;1b2;2c3;3d4;4e5;5f6;6g7;7x9";
    /** Numbers that nothing takes that is counted from 0 on. */
    static final int[] FAR_OFF = {Integer.MIN_VALUE, -256, -2, -1, 256, 65536, Integer.MAX_VALUE};

    private static int passed = 0;
    private static int failed = 0;

    private Check() {
    }

    static void is(String call, long got, long due) {
        if (got == due) {
            passed++;
        } else {
            failed++;
            System.out.println(call + " answered " + got + ", due is " + due);
        }
    }

    static void holds(String what, boolean holds) {
        is(what, holds ? 1 : 0, 1);
    }

    /** Holds a row of answers against a row of dues. */
    static void are(String calls, long[] got, long... due) {
        is(calls + " length", got.length, due.length);
        for (int k = 0; k < got.length && k < due.length; k++) {
            is(calls + " [" + k + "]", got[k], due[k]);
        }
    }

    /** A call that is refused changes nothing; a finding, which shows by its answer, count() 8 alone. */
    static void refused(String call, PloughTurns x, long due, LongSupplier act) {
        boolean isFinding = due <= -11 && due >= -15;
        refused(call, x, due, isFinding ? (int) (-10 - due) : x.count(8), act);
    }

    /** As refused() above, where the answer does not tell which finding it is. */
    static void refused(String call, PloughTurns x, long due, int finding, LongSupplier act) {
        long digest = x.digest();
        is(call, act.getAsLong(), due);
        is(call + " leaves the digest", x.digest(), digest);
        is(call + " and count(8)", x.count(8), finding);
    }

    /** The closing line; a failed one ends the run. */
    static void close() {
        System.out.println(passed + " passed, " + failed + " failed");
        if (failed != 0) {
            System.exit(1);
        }
    }

    static void enter(PloughTurns x, int text, String bytes) {
        for (int p = 0; p < bytes.length(); p++) {
            x.type(text, bytes.charAt(p));
        }
    }

    /** An object with texts and events; of each event its kind, night and furrow. */
    static PloughTurns made(String gone, String needs, int... events) {
        PloughTurns x = new PloughTurns();
        enter(x, 0, gone);
        enter(x, 1, needs);
        for (int i = 0; i + 2 < events.length; i += 3) {
            x.event(events[i], events[i + 1], events[i + 2]);
        }
        return x;
    }

    static void putRow(PloughTurns x, int s, int form, int... row) {
        for (int i = 0; i < row.length; i++) {
            x.put(s, form, i, row[i]);
        }
    }

    static long[] row(PloughTurns x, int s, int form, int n) {
        long[] row = new long[n];
        for (int i = 0; i < n; i++) {
            row[i] = x.get(s, form, i);
        }
        return row;
    }

    /** What one of the gone is told of behind the nights 0 to upTo. */
    static long[] nights(PloughTurns x, int one, int what, int upTo) {
        long[] row = new long[upTo + 1];
        for (int night = 0; night <= upTo; night++) {
            row[night] = x.at(night, one, what);
        }
        return row;
    }
}
