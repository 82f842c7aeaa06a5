/** Promises 16 to 20: what is best. */
public final class BestTest {
    private static final Check check = new Check();

    public static void main(String[] args) {
        beaten();
        toss();
        rid();
        lasts();
        betting();
        check.end();
    }

    private static HatsInRing ring(int... hats) {
        HatsInRing x = new HatsInRing();
        for (int i = 0; i < hats.length; i += 3) {
            x.hat(hats[i], hats[i + 1], hats[i + 2]);
        }
        return x;
    }

    private static void beaten() {
        HatsInRing x = ring(0, 0, 5000, 0, 1, 500, 0, 8, 9900);
        int[][] due = {{0, 0, 2}, {0, 1, 1}, {1, 0, 0}, {1, 1, 0}, {2, 0, 3}, {2, 1, 2},
            {3, 0, -5}, {-1, 9, -5}, {0, 2, -7}, {0, -1, -7}};
        for (int[] d : due) {
            check.due(16, "beaten(" + d[0] + ", " + d[1] + ")", x.beaten(d[0], d[1]), d[2]);
        }
        check.due(16, "none is laid flat, truly", x.count(2), 3);
        x.put(1, 1, 0);
        check.due(16, "beaten(0, 0), 1 is FLAT as it is", x.beaten(0, 0), 2);
        check.due(16, "beaten(1, 0), FLAT itself", x.beaten(1, 0), 0);
        HatsInRing slow = ring(50, 0, 9900, 50, 0, 9900);
        check.due(16, "both are UP then", slow.beaten(0, 0), 0);
        HatsInRing long60 = new HatsInRing();
        Check.text(long60, "goes 1;hits 1;soft 0;");
        long60.force(1);
        long60.hat(0, 0, 9900);
        long60.hat(0, 0, 6000);
        check.due(16, "behind 60 ROUNDS", long60.beaten(0, 0), 2);
        long60.put(1, 1, 61);
        check.due(16, "behind 61 ROUNDS", long60.beaten(0, 0), 0);
    }

    private static void toss() {
        HatsInRing x = ring(0, 9, 5000, 0, 0, 9900);
        int[][] due = {{0, 1, 0, 3}, {0, 1, 1, 50}, {0, 0, 0, 0}, {0, 0, 1, 50}, {0, 2, 1, 50}, {0, 2, 0, 5},
            {2, 0, 0, -5}, {-1, 99, 0, -5}, {0, -1, 0, -7}, {0, 41, 0, -7}, {0, 1, 2, -7}, {0, 1, -1, -7}};
        for (int[] d : due) {
            check.due(17, "toss(" + d[0] + ", " + d[1] + ", " + d[2] + ")", x.toss(d[0], d[1], d[2]), d[3]);
        }
        check.due(17, "it is where it was", x.told(0, 0), 9);
        x.put(0, 1, 0);
        check.due(17, "toss(0, 40, 0), FLAT", x.toss(0, 40, 0), 0);
        check.due(17, "toss(0, 40, 1), FLAT", x.toss(0, 40, 1), 0);
        HatsInRing alone = ring(0, 9, 5000);
        check.due(17, "toss(0, 40, 0), alone", alone.toss(0, 40, 0), 0);
        check.due(17, "toss(0, 40, 1), alone", alone.toss(0, 40, 1), 50);
    }

    private static void rid() {
        HatsInRing x = ring(0, 0, 5000, 0, 1, 9900, 0, 63, 9900);
        int[][] due = {{0, 1, 0, 1}, {0, 1, 1, 50}, {0, 0, 0, -1}, {0, 0, 1, 50}, {2, 1, 0, -1}, {2, 1, 1, 99},
            {3, 0, 0, -5}, {-1, 99, 9, -5}, {0, -1, 0, -7}, {0, 41, 0, -7}, {0, 1, 2, -7}, {0, 1, -1, -7}};
        for (int[] d : due) {
            check.due(18, "rid(" + d[0] + ", " + d[1] + ", " + d[2] + ")", x.rid(d[0], d[1], d[2]), d[3]);
        }
        check.due(18, "none is laid flat, truly", x.count(2), 3);
        HatsInRing like = ring(0, 0, 5000, 0, 1, 9900, 0, 8, 9900);
        check.due(18, "of like ones the first", like.rid(0, 1, 0), 1);
        check.due(18, "how much", like.rid(0, 1, 1), 45);
        like.put(1, 1, 0);
        check.due(18, "no FLAT one", like.rid(0, 1, 0), 2);
        check.due(18, "how much", like.rid(0, 1, 1), 50);
        check.due(18, "40 ROUNDS", like.rid(0, 40, 1), 50);
    }

    private static void lasts() {
        HatsInRing x = ring(0, 0, 5000, 0, 1, 9900);
        int[][] due = {{0, 0, 1}, {0, 1, 6}, {0, 2, 11}, {0, 19, 96}, {0, 20, 96}, {0, 40, 96}, {1, 1, 6},
            {2, 0, -5}, {-1, 99, -5}, {0, -1, -7}, {0, 41, -7}};
        for (int[] d : due) {
            check.due(19, "lasts(" + d[0] + ", " + d[1] + ")", x.lasts(d[0], d[1]), d[2]);
        }
        check.due(19, "FELT stays", x.told(0, 1), 50);
        Check.text(x, "goes 1;hits 99;soft 0;");
        x.force(1);
        check.due(19, "by none", x.lasts(1, 1), -1);
        check.due(19, "0 hits first", x.lasts(0, 1), 1);
        x.put(0, 1, 0);
        check.due(19, "one that is FLAT now", x.lasts(0, 1), 1);
    }

    private static void betting() {
        HatsInRing x = ring(0, 0, 2000, 0, 1, 3000, 0, 2, 0);
        long[][] due = {{0, 0, 2}, {0, 1, 5}, {1, 0, 3}, {1, 1, 5}, {2, 0, 0}, {2, 1, 1},
            {3, 0, HatsInRing.NO}, {-1, 0, HatsInRing.NO}, {0, 2, HatsInRing.NO}, {0, -1, HatsInRing.NO}};
        for (long[] d : due) {
            check.due(20, "betting(" + d[0] + ", " + d[1] + ")", x.betting((int) d[0], (int) d[1]), d[2]);
        }
        x.put(0, 1, 0);
        check.due(20, "all of it", x.betting(1, 0), 1);
        check.due(20, "all of it", x.betting(1, 1), 1);
        x.put(1, 1, 0);
        check.due(20, "all FLAT", x.betting(1, 0), HatsInRing.NO);
        check.due(20, "all FLAT", x.betting(1, 1), HatsInRing.NO);
        HatsInRing prime = ring(0, 0, 9700, 0, 0, 9900);
        check.due(20, "97 of 196", prime.betting(0, 1), 196);
    }
}
