import java.util.Random;

/** Random runs of calls, each answer held against the model's; the seeds are fixed. */
public final class RandomRuns {
    private static final int RUNS = 1500;
    private static final int CALLS = 140;
    private final PloughTurns x = new PloughTurns();
    private final Model m = new Model();
    private final Random random;
    private final int run;
    private int called = 0;

    private RandomRuns(int run) {
        this.run = run;
        this.random = new Random(run);
    }

    public static void main(String[] args) {
        for (int run = 0; run < RUNS; run++) {
            new RandomRuns(run).go();
        }
        Check.close();
    }

    private void go() {
        enter(0, goneText());
        enter(1, needText());
        int events = random.nextInt(9);
        for (int e = 0; e < events; e++) {
            askEvent();
        }
        while (called < CALLS) {
            call(random.nextInt(45));
        }
        // Digests tell of everything, but the model takes its time for them.
        if (run % 10 == 0) {
            due("digest()", x.digest(), m.digest());
        }
    }

    private void due(String call, long got, long want) {
        called++;
        Check.is("run " + run + ", call " + called + ": " + call, got, want);
    }

    private int below(int n) {
        return random.nextInt(n);
    }

    /** A number from 0 to high, now and then one beside it or far away. */
    private int about(int high) {
        int roll = below(40);
        if (roll == 0) {
            return -1;
        }
        if (roll == 1) {
            return high + 1;
        }
        if (roll == 2) {
            return below(2) == 0 ? Integer.MIN_VALUE : Integer.MAX_VALUE;
        }
        return below(high + 1);
    }

    private String goneText() {
        int n = below(4) == 0 ? below(3) : 4 + below(5);
        int furrows = 1 + below(3);
        StringBuilder text = new StringBuilder();
        for (int k = 0; k < n; k++) {
            String cell;
            do {
                cell = "" + below(6) + below(furrows < 2 && n > 4 ? 3 : furrows);
            } while (below(60) > 0 && (";" + text).matches(".*;." + cell + ".*"));
            text.append(k == 0 ? "" : ";").append("dcr".charAt(below(3))).append(cell).append(1 + below(9));
        }
        return text.toString();
    }

    private String needText() {
        int n = below(4) == 0 ? below(3) : 4 + below(5);
        StringBuilder text = new StringBuilder();
        for (int k = 0; k < n; k++) {
            text.append(k == 0 ? "" : ";").append(below(below(3) == 0 ? 8 : 4))
                .append((char) ('a' + below(below(2) == 0 ? 24 : 6))).append(1 + below(9));
        }
        return text.toString();
    }

    private void enter(int text, String bytes) {
        for (int p = 0; p < bytes.length(); p++) {
            due("type(" + text + ", " + bytes.charAt(p) + ")", x.type(text, bytes.charAt(p)),
                m.type(text, bytes.charAt(p)));
        }
    }

    private void askEvent() {
        int kind = below(4) == 0 ? about(1) : 0;
        int night = below(2) == 0 ? about(23) : below(8);
        int furrow = below(3) == 0 ? about(5) : below(3);
        due("event(" + kind + ", " + night + ", " + furrow + ")", x.event(kind, night, furrow),
            m.event(kind, night, furrow));
    }

    private void call(int which) {
        if (which < 12) {
            callTexts(which);
        } else if (which < 22) {
            callNights(which);
        } else if (which < 32) {
            callPlans(which);
        } else {
            callSheets(which);
        }
    }

    private void callTexts(int which) {
        int text = about(1);
        switch (which) {
            case 0, 1 -> {
                int b = below(3) == 0 ? about(255) : "dcr;0123456789abx"
                    .charAt(below(17));
                due("type(" + text + ", " + b + ")", x.type(text, b), m.type(text, b));
            }
            case 2 -> {
                if (below(4) == 0) {
                    due("wipe(" + text + ")", x.wipe(text), m.wipe(text));
                    enter(0, goneText());
                    enter(1, needText());
                }
            }
            case 3, 4, 5 -> due("undo(" + text + ")", x.undo(text), m.undo(text));
            case 6 -> due("fault(" + text + ")", x.fault(text), m.fault(text));
            case 7 -> {
                int one = about(7), what = about(3);
                due("gone(" + one + ", " + what + ")", x.gone(one, what), m.gone(one, what));
            }
            case 8 -> {
                int need = about(7), what = about(2);
                due("need(" + need + ", " + what + ")", x.need(need, what), m.need(need, what));
            }
            case 9, 10 -> askEvent();
            default -> {
                if (below(2) == 0) {
                    due("back()", x.back(), m.back());
                } else {
                    mendText();
                }
            }
        }
    }

    /** Takes bytes back until what is left is well, so that faults do not last. */
    private void mendText() {
        for (int text = 0; text < 2; text++) {
            while (m.fault(text) != Model.NONE) {
                due("undo(" + text + ")", x.undo(text), m.undo(text));
            }
        }
    }

    private void callNights(int which) {
        int night = about(23), one = about(7);
        switch (which) {
            case 12, 13 -> {
                int what = about(2);
                due("at(" + night + ", " + one + ", " + what + ")", x.at(night, one, what), m.at(night, one, what));
            }
            case 14 -> {
                int fx = about(5), fy = about(5);
                due("field(" + night + ", " + fx + ", " + fy + ")", x.field(night, fx, fy), m.field(night, fx, fy));
            }
            case 15 -> {
                int what = about(1);
                due("up(" + night + ", " + what + ")", x.up(night, what), m.up(night, what));
            }
            case 16 -> due("met(" + one + ")", x.met(one), m.met(one));
            case 17 -> due("stood(" + one + ")", x.stood(one), m.stood(one));
            case 18 -> due("wrongly()", x.wrongly(), m.wrongly());
            case 19 -> {
                int what = about(1);
                due("first(" + what + ")", x.first(what), m.first(what));
            }
            case 20 -> due("gate()", x.gate(), m.gate());
            default -> due("rest()", x.rest(), m.rest());
        }
    }

    private void callPlans(int which) {
        int night = about(23), one = about(7), furrow = about(5), what = about(1);
        switch (which) {
            case 22 -> due("plough(" + night + ", " + what + ")", x.plough(night, what), m.plough(night, what));
            case 23 -> {
                int which3 = about(2);
                due("lie(" + one + ", " + which3 + ")", x.lie(one, which3), m.lie(one, which3));
            }
            case 24 -> due("when(" + furrow + ", " + what + ")", x.when(furrow, what), m.when(furrow, what));
            case 25 -> {
                int i = about(2) - 1;
                due("spare(" + i + ")", x.spare(i), m.spare(i));
            }
            case 26 -> {
                // Mostly what is so, or would be with another far, for few sets of lies come out.
                int up = m.at(night, one, 0);
                up = up < 0 || below(5) == 0 ? about(1) : up;
                due("seen(" + night + ", " + one + ", " + up + ")", x.seen(night, one, up), m.seen(night, one, up));
            }
            case 27 -> {
                if (below(3) == 0) {
                    due("forget()", x.forget(), m.forget());
                } else {
                    due("never()", x.never(), m.never());
                }
            }
            case 28 -> due("was(" + one + ", " + what + ")", x.was(one, what), m.was(one, what));
            case 29 -> due("ask(" + one + ")", x.ask(one), m.ask(one));
            case 30 -> {
                int c = about(16);
                due("chance(" + c + ", " + one + ", " + what + ")", x.chance(c, one, what), m.chance(c, one, what));
            }
            default -> {
                int seed = random.nextInt(), n = about(8);
                due("years(" + seed + ", " + n + ", " + what + ")", x.years(seed, n, what), m.years(seed, n, what));
            }
        }
    }

    private void callSheets(int which) {
        int s = about(3), t = about(3), form = about(2), i = about(9), v = random.nextInt() >> below(32);
        switch (which) {
            case 32, 33 -> {
                int n = below(5) == 0 ? about(60) : below(12);
                due("sheet(" + s + ", " + form + ", " + n + ")", x.sheet(s, form, n), m.sheet(s, form, n));
            }
            case 34 -> {
                if (below(3) == 0) {
                    due("lose(" + s + ")", x.lose(s), m.lose(s));
                }
            }
            case 35, 36 -> due("put(" + s + ", " + form + ", " + i + ", " + v + ")", x.put(s, form, i, v),
                m.put(s, form, i, v));
            case 37, 38 -> due("get(" + s + ", " + form + ", " + i + ")", x.get(s, form, i), m.get(s, form, i));
            case 39, 40 -> {
                int j = about(9), n = below(3) == 0 ? about(10) : below(4);
                due("copy(" + s + ", " + i + ", " + t + ", " + j + ", " + n + ")", x.copy(s, i, t, j, n),
                    m.copy(s, i, t, j, n));
            }
            case 41 -> {
                int one = about(7);
                due("write(" + one + ", " + s + ")", x.write(one, s), m.write(one, s));
            }
            case 42 -> readSheet(s, form);
            default -> {
                int what = about(8);
                due("count(" + what + ")", x.count(what), m.count(what));
            }
        }
    }

    /** Fills a sheet with what event() may take, and reads it. */
    private void readSheet(int s, int form) {
        int n = below(14);
        due("sheet(" + s + ", " + form + ", " + n + ")", x.sheet(s, form, n), m.sheet(s, form, n));
        for (int i = 0; i < n; i++) {
            int v = i % 3 == 0 ? about(1) : i % 3 == 1 ? about(23) : about(5);
            due("put(" + s + ", " + form + ", " + i + ", " + v + ")", x.put(s, form, i, v), m.put(s, form, i, v));
        }
        int backs = below(9);
        for (int k = 0; k < backs; k++) {
            due("back()", x.back(), m.back());
        }
        due("read(" + s + ")", x.read(s), m.read(s));
    }
}
