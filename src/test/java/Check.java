/** Counts the answers that are due and those that are not. */
final class Check {
    private static int passed = 0;
    private static int failed = 0;

    private Check() {
    }

    static void is(String call, long got, long due) {
        if (got == due) {
            passed++;
        } else {
            failed++;
            System.out.println(call + " answered " + got + ", due is " + due);
        }
    }

    static void holds(String what, boolean holds) {
        is(what, holds ? 1 : 0, 1);
    }

    /** The closing line; a failed one ends the run. */
    static void close() {
        System.out.println(passed + " passed, " + failed + " failed");
        if (failed != 0) {
            System.exit(1);
        }
    }

    static void enter(PloughTurns x, int text, String bytes) {
        for (int p = 0; p < bytes.length(); p++) {
            x.type(text, bytes.charAt(p));
        }
    }

    /** An object with texts and events; of each event its kind, night and furrow. */
    static PloughTurns made(String gone, String needs, int... events) {
        PloughTurns x = new PloughTurns();
        enter(x, 0, gone);
        enter(x, 1, needs);
        for (int i = 0; i + 2 < events.length; i += 3) {
            x.event(events[i], events[i + 1], events[i + 2]);
        }
        return x;
    }
}
