/** Promises 11 to 15: rounds. */
public final class RoundTest {
    private static final Check check = new Check();

    public static void main(String[] args) {
        rounds();
        lastRound();
        mosts();
        turns();
        bells();
        runs();
        whens();
        sixtieth();
        ends();
        likeEnds();
        check.end();
    }

    /**
     * 0 at row 0, column 0; 1 at row 2, column 2; each of FELT 10, hitting 5. Round 0: both step a row.
     * Round 1: 0 steps a column and is hit. Round 2: 0 hits, and is laid flat.
     */
    private static HatsInRing two() {
        HatsInRing x = new HatsInRing();
        x.hat(0, 0, 1000);
        x.hat(0, 18, 1000);
        return x;
    }

    private static void state(String when, HatsInRing x, int p, int... facts) {
        for (int what = 0; what < facts.length; what++) {
            check.due(11, when + ": told(" + p + ", " + what + ")", x.told(p, what), facts[what]);
        }
    }

    private static void rounds() {
        HatsInRing x = two();
        check.due(11, "round 0", x.round(), 0);
        state("round 0", x, 0, 8, 10, 0, 0);
        state("round 0", x, 1, 10, 10, 0, 0);
        check.due(11, "round 1", x.round(), 0);
        state("round 1", x, 0, 9, 5, 0, 1);
        state("round 1", x, 1, 10, 10, 1, 0);
        check.due(11, "TALLY", x.duel(1, 0, 3), 1);
        check.due(11, "TALLY", x.duel(0, 1, 3), 0);
        check.due(11, "round 2", x.round(), 1);
        state("round 2", x, 0, 9, 0, 1, 2);
        state("round 2", x, 1, 10, 5, 2, 1);
        check.due(11, "round 3", x.round(), 0);
        state("round 3", x, 0, 9, 0, 1, 2);
        state("round 3", x, 1, 10, 5, 2, 1);
        check.due(11, "ROUND", x.count(1), 4);
        HatsInRing back = new HatsInRing();
        back.hat(0, 63, 1000);
        back.hat(50, 20, 1000);
        back.round();
        state("a row up", back, 0, 55);
        state("who GOES never", back, 1, 20);
        back.put(0, 0, 23);
        back.round();
        state("a column to the left", back, 0, 22);
    }

    private static void lastRound() {
        HatsInRing x = two();
        x.bell(998);
        check.due(11, "round 998", x.round(), 0);
        check.due(11, "ROUND", x.count(1), 999);
        check.due(11, "round 999", x.round(), -3);
        check.due(11, "ROUND", x.count(1), 999);
        state("round 999", x, 0, 8);
        check.due(13, "in thought it may pass 999", x.run(2, 20), 0);
    }

    private static void mosts() {
        HatsInRing x = new HatsInRing();
        Check.text(x, "goes 1;hits 0;soft 0;");
        x.force(1);
        x.hat(0, 0, 100);
        x.hat(0, 0, 100);
        for (int i = 0; i < 98; i++) {
            x.round();
        }
        state("98 rounds", x, 0, 0, 1, 98, 98);
        x.round();
        x.round();
        x.round();
        state("101 rounds", x, 0, 0, 1, 99, 99);
        check.due(11, "TALLY", x.duel(0, 1, 3), 99);
        check.due(13, "all TALLIES", x.run(60, 1), 198);
    }

    /** All is told as it is when one's turn comes. */
    private static void turns() {
        HatsInRing x = new HatsInRing();
        Check.text(x, "goes blows < 1;hits pride+up;soft blows;");
        x.force(1);
        x.hat(0, 0, 5007);
        x.hat(0, 1, 5003);
        x.hat(0, 2, 205);
        check.due(11, "round", x.round(), 0);
        state("0 hits 1, that goes no more", x, 0, 0, 50, 8, 0);
        state("0 hits 1, that goes no more", x, 1, 1, 50 - 10 - 7, 3, 2);
        state("2 hits 1", x, 2, 2, 2, 6, 0);
        check.due(11, "TALLY of 2 and 1", x.duel(2, 1, 3), 1);
        HatsInRing flat = new HatsInRing();
        flat.hat(0, 0, 5000);
        flat.hat(0, 1, 500);
        flat.hat(0, 2, 500);
        check.due(11, "one that is FLAT has no turn", flat.round(), 2);
        state("2 steps towards 0", flat, 2, 1, 5, 0, 0);
        HatsInRing tops = new HatsInRing();
        tops.hat(30, 0, 5000);
        tops.hat(50, 0, 5000);
        tops.round();
        state("a TOP hits 5", tops, 1, 0, 45, 0, 1);
        tops.round();
        state("a TOP hits 1", tops, 1, 0, 44, 0, 2);
    }

    private static void bells() {
        HatsInRing x = new HatsInRing();
        check.due(12, "bell(999)", x.bell(999), 0);
        check.due(12, "bell(1000)", x.bell(1000), -2);
        check.due(12, "bell(-1)", x.bell(-1), -2);
        check.due(12, "count(1)", x.count(1), 999);
        check.due(12, "bell(0)", x.bell(0), 999);
        check.due(12, "count(1)", x.count(1), 0);
    }

    private static void runs() {
        HatsInRing x = two();
        int[][] due = {
            {0, 0, 3}, {2, 0, 3}, {3, 0, 2}, {60, 0, 2}, {0, 1, 0}, {2, 1, 1}, {3, 1, 3}, {60, 1, 3},
            {0, 10, 0}, {1, 10, 8}, {3, 10, 9}, {3, 11, 10}, {2, 20, 5}, {3, 20, 0}, {3, 21, 5},
            {3, 30, 2}, {3, 31, 1}, {60, 31, 1},
            {-1, 0, -2}, {61, 0, -2}, {1, 2, -2}, {1, 9, -2}, {1, 12, -2}, {1, 19, -2}, {1, 22, -2},
            {1, 32, -2}, {1, 40, -2}, {1, 41, -2}, {1, -1, -2}, {1, -10, -2}, {1, -20, -2},
        };
        for (int[] d : due) {
            check.due(13, "run(" + d[0] + ", " + d[1] + ")", x.run(d[0], d[1]), d[2]);
        }
        state("thought changes nothing", x, 0, 0, 10, 0, 0);
        check.due(13, "ROUND", x.count(1), 0);
        x.round();
        x.round();
        check.due(13, "TALLIES that are there", x.run(0, 1), 1);
    }

    private static void whens() {
        HatsInRing x = two();
        int[][] due = {{0, 3}, {1, -1}, {6, 3}, {2, -5}, {5, -5}, {7, -5}, {-1, -5}};
        for (int[] d : due) {
            check.due(14, "when(" + d[0] + ")", x.when(d[0]), d[1]);
        }
        x.put(1, 1, 0);
        check.due(14, "when(1), FLAT", x.when(1), 0);
        check.due(14, "when(6), one UP", x.when(6), 0);
        check.due(14, "when(6), empty", new HatsInRing().when(6), 0);
        check.due(14, "when(0), empty", new HatsInRing().when(0), -5);
        HatsInRing all = new HatsInRing();
        for (int p = 0; p < 6; p++) {
            all.hat(50, 10 * p, 100);
        }
        check.due(14, "when(5)", all.when(5), -1);
        check.due(14, "when(6)", all.when(6), -1);
    }

    /** One is hit 60 times, by 1. */
    private static void sixtieth() {
        HatsInRing x = new HatsInRing();
        Check.text(x, "goes 1;hits 1;soft 0;");
        x.force(1);
        x.hat(0, 0, 9900);
        x.hat(0, 0, 6000);
        check.due(14, "when(1)", x.when(1), 60);
        check.due(15, "end(2)", x.end(2), 1);
        check.due(15, "end(3)", x.end(3), 59);
        check.due(15, "end(1)", x.end(1), 99 - 59);
        x.put(1, 1, 61);
        check.due(14, "when(1)", x.when(1), -1);
        check.due(15, "end(2)", x.end(2), -1);
        check.due(15, "end(3)", x.end(3), -1);
    }

    private static void ends() {
        HatsInRing x = two();
        int[] due = {1, 5, 0, 2};
        for (int what = 0; what < due.length; what++) {
            check.due(15, "end(" + what + ")", x.end(what), due[what]);
        }
        check.due(15, "end(4)", x.end(4), -2);
        check.due(15, "end(-1)", x.end(-1), -2);
        check.due(15, "ROUND", x.count(1), 0);
        x.bell(500);
        check.due(15, "end(3), from now on", x.end(3), 2);
        x.put(0, 1, 0);
        x.put(1, 1, 0);
        int[] none = {-1, 0, -1, -1};
        for (int what = 0; what < due.length; what++) {
            check.due(15, "end(" + what + "), none UP", x.end(what), none[what]);
        }
    }

    private static void likeEnds() {
        HatsInRing x = new HatsInRing();
        x.hat(0, 0, 500);
        x.hat(0, 63, 9900);
        x.hat(0, 62, 500);
        x.hat(0, 1, 9900);
        check.due(11, "2 is laid flat, then 0", copyOf(x).round(), 5);
        check.due(15, "end(2), the first by numbers", x.end(2), 0);
        check.due(15, "end(3)", x.end(3), 0);
        HatsInRing like = new HatsInRing();
        like.hat(50, 0, 700);
        like.hat(50, 9, 900);
        like.hat(50, 27, 900);
        check.due(15, "end(0), of like ones the first", like.end(0), 1);
        check.due(15, "end(1)", like.end(1), 9);
        check.due(15, "end(2), none", like.end(2), -1);
    }

    private static HatsInRing copyOf(HatsInRing x) {
        HatsInRing y = new HatsInRing();
        for (int p = 0; p < x.count(0); p++) {
            y.hat(10 * x.told(p, 4) + x.told(p, 5), x.told(p, 0), 100 * x.told(p, 1) + x.told(p, 2));
        }
        return y;
    }
}
