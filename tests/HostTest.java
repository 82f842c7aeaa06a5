/** Promises 32 to 36: the host. */
public final class HostTest {
    private static final int MOST = Integer.MAX_VALUE;
    private static final int LEAST = Integer.MIN_VALUE;
    private static final Check check = new Check();

    public static void main(String[] args) {
        sheets();
        cells();
        copies();
        copyRefusals();
        hatsBy();
        hatsByRefusals();
        taken();
        check.end();
    }

    private static void sheets() {
        HatsInRing x = new HatsInRing();
        int[][] due = {{0, 0, 40, 1}, {3, 2, 0, 1}, {1, 1, 5, 1}, {-1, 0, 1, -2}, {4, 0, 1, -2}, {0, -2, 1, -2},
            {0, 3, 1, -2}, {0, 0, 41, -2}, {0, 0, MOST, -2}, {0, 0, -1, -14}, {0, 2, LEAST, -14},
            {0, 3, -1, -2}, {4, 0, -1, -2}};
        for (int[] d : due) {
            check.due(32, "sheet(" + d[0] + ", " + d[1] + ", " + d[2] + ")", x.sheet(d[0], d[1], d[2]), d[3]);
        }
        check.due(32, "40 are there", x.cell(0, 39, 1), 1);
        check.due(32, "missing, n does not matter", x.sheet(0, -1, 99), 1);
        check.due(32, "missing", x.cell(0, 0, 1), -11);
        check.due(32, "missing, again", x.sheet(0, -1, -99), 1);
        x.hat(50, 0, 700);
        Check.sheet(x, 0, 7, 7, 7);
        x.sheet(0, 2, 3);
        check.due(32, "all 0", x.judge(0, 0), 0);
        x.put(0, 1, 0);
        check.due(32, "all 0", x.judge(0, 0), -1);
        Check.sheet(x, 0, 1, 1, 1);
        x.sheet(0, -1, 0);
        x.sheet(0, 2, 3);
        check.due(32, "all 0, once it was missing", x.judge(0, 0), -1);
    }

    /** A SHEET's number, told by copying it behind a PLACE and a KIND, or by judging it. */
    private static void cells() {
        int[][] narrow = {{0, 256 + 7, 7}, {0, 7 - 256, 7}, {1, 65536 + 7, 7}, {1, 7 - 65536, 7}, {2, 7, 7}};
        for (int[] n : narrow) {
            HatsInRing x = new HatsInRing();
            x.hat(50, 0, 700);
            x.sheet(0, n[0], 1);
            check.due(33, "cell(0, 0, " + n[1] + ")", x.cell(0, 0, n[1]), 1);
            check.due(33, n[1] + " of sort " + n[0], x.judge(0, 0), -1);
        }
        int[][] wide = {{1, 256 + 7}, {2, 256 + 7}, {2, 65536 + 7}, {0, 8}};
        for (int[] n : wide) {
            HatsInRing x = new HatsInRing();
            x.hat(50, 0, 700);
            x.sheet(0, n[0], 1);
            x.cell(0, 0, n[1]);
            check.due(33, n[1] + " of sort " + n[0], x.judge(0, 0), 0);
        }
        HatsInRing x = new HatsInRing();
        x.sheet(0, 1, 3);
        int[][] due = {{0, 0, 1}, {0, 2, 1}, {0, 3, -12}, {0, -1, -12}, {0, MOST, -12}, {0, LEAST, -12},
            {1, 0, -11}, {1, -1, -11}, {4, 0, -2}, {-1, 0, -2}};
        for (int[] d : due) {
            check.due(33, "cell(" + d[0] + ", " + d[1] + ", 1)", x.cell(d[0], d[1], 1), d[2]);
        }
        HatsInRing signed = new HatsInRing();
        signed.sheet(0, 0, 3);
        signed.cell(0, 2, 200);
        check.due(33, "200 of bytes is below 0", signed.hatsBy(0, 0, 0, 1), 0);
        signed.sheet(0, 1, 3);
        signed.cell(0, 2, 40000);
        check.due(33, "40000 of shorts is below 0", signed.hatsBy(0, 1, 0, 1), 0);
    }

    private static void copies() {
        HatsInRing x = falling();
        Check.sheet(x, 0, 1, 45, 40, 35);
        Check.sheet(x, 1, 9, 9, 9);
        check.due(34, "copy(0, 1, 1, 0, 3)", x.copy(0, 1, 1, 0, 3), 3);
        check.due(34, "they came", x.judge(1, 0), -1);
        check.due(34, "they stay", x.judge(0, 0), 0);
        check.due(34, "onto its own, lower", x.copy(0, 1, 0, 0, 3), 3);
        check.due(34, "as they were", x.judge(0, 0), 3);
        x.cell(0, 3, 30);
        check.due(34, "as they were", x.judge(0, 0), -1);
        Check.sheet(x, 2, 45, 40, 35, 0, 0);
        check.due(34, "onto its own, higher", x.copy(2, 0, 2, 2, 3), 3);
        Check.sheet(x, 3, 9, 9, 9);
        x.copy(2, 2, 3, 0, 3);
        check.due(34, "as they were", x.judge(3, 0), -1);
        check.due(34, "none", x.copy(0, 4, 1, 3, 0), 0);
        check.due(34, "a part of them", x.copy(0, 0, 3, 2, 1), 1);
        check.due(34, "the part, and no more", x.judge(3, 0), 2);
    }

    /** Of FELT 50, hit by 5 in each round. */
    private static HatsInRing falling() {
        HatsInRing x = new HatsInRing();
        x.hat(50, 0, 5000);
        x.hat(0, 0, 9900);
        return x;
    }

    private static void copyRefusals() {
        HatsInRing x = new HatsInRing();
        x.sheet(0, 0, 4);
        x.sheet(1, 0, 6);
        x.sheet(2, 1, 6);
        int[][] due = {
            {-1, 0, 0, 0, 1, -2}, {4, 0, 0, 0, 1, -2}, {0, 0, 4, 0, 1, -2}, {0, 0, -1, 0, 1, -2}, {3, 0, 4, 0, 1, -2},
            {3, 0, 0, 0, 1, -11}, {0, 0, 3, 0, 1, -11}, {3, -1, 3, -1, -1, -11}, {2, 0, 3, 0, 0, -11},
            {0, 0, 2, 0, 1, -13}, {2, -1, 0, 0, -1, -13}, {0, 0, 2, 0, 0, -13},
            {0, 0, 1, 0, 5, -12}, {1, 0, 0, 0, 5, -12}, {0, 1, 1, 0, 4, -12}, {0, 0, 1, 3, 4, -12},
            {0, -1, 1, 0, 1, -12}, {0, 0, 1, -1, 1, -12}, {0, 0, 1, 0, -1, -12}, {0, 5, 1, 0, 0, -12},
            {0, 0, 1, 7, 0, -12}, {0, MOST, 1, 0, 1, -12}, {0, 0, 1, MOST, 1, -12}, {0, 1, 1, 1, MOST, -12},
            {0, 0, 1, 0, LEAST, -12}, {0, LEAST, 1, 0, 1, -12}, {0, 2, 1, 5, 2, -12},
            {0, 4, 1, 6, 0, 0}, {0, 0, 1, 0, 4, 4}, {0, 0, 1, 2, 4, 4},
        };
        for (int[] d : due) {
            check.due(34, "copy(" + d[0] + ", " + d[1] + ", " + d[2] + ", " + d[3] + ", " + d[4] + ")",
                x.copy(d[0], d[1], d[2], d[3], d[4]), d[5]);
        }
    }

    private static void hatsBy() {
        HatsInRing x = new HatsInRing();
        Check.sheet(x, 0, 7, 47, 63, 9998, 60, 0, 0, 3, 5, 1234);
        check.due(35, "hatsBy(0, 2, 1, 3)", x.hatsBy(0, 2, 1, 3), 2);
        int[][] facts = {{63, 99, 98, 0, 4, 7}, {5, 12, 34, 0, 0, 3}};
        for (int p = 0; p < 2; p++) {
            for (int what = 0; what < 6; what++) {
                check.due(35, "told(" + p + ", " + what + ")", x.told(p, what), facts[p][what]);
            }
        }
        check.due(35, "none", x.hatsBy(0, 2, 0, 0), 0);
        HatsInRing bytes = new HatsInRing();
        bytes.sheet(1, 0, 6);
        bytes.cell(1, 2, 127);
        bytes.cell(1, 3, 12);
        check.due(35, "of bytes", bytes.hatsBy(1, 0, 0, 2), 2);
        check.due(35, "FELT", bytes.told(0, 1), 1);
        check.due(35, "PRIDE", bytes.told(0, 2), 27);
        check.due(35, "KIND", bytes.told(1, 4), 1);
        HatsInRing full = new HatsInRing();
        full.sheet(2, 1, 18);
        check.due(35, "of shorts, all six", full.hatsBy(2, 1, 0, 6), 6);
        check.due(35, "what has no room is left out", full.hatsBy(2, 1, 0, 2), 0);
        check.due(35, "-12, without room, too", full.hatsBy(2, 1, 17, 1), -12);
        HatsInRing nearlyFull = new HatsInRing();
        nearlyFull.sheet(2, 1, 18);
        nearlyFull.hatsBy(2, 1, 0, 4);
        check.due(35, "two have room", nearlyFull.hatsBy(2, 1, 0, 6), 2);
        HatsInRing last = new HatsInRing();
        last.sheet(0, 1, 40);
        check.due(35, "up to the last", last.hatsBy(0, 1, 37, 1), 1);
        check.due(35, "beyond the last", last.hatsBy(0, 1, 38, 1), -12);
        check.due(35, "count(0)", last.count(0), 1);
        check.due(35, "beyond the last", last.hatsBy(0, 1, 34, 3), -12);
        check.due(35, "what stood ahead came", last.count(0), 3);
        check.due(35, "below 0", last.hatsBy(0, 1, -1, 2), -12);
        check.due(35, "below 0", last.hatsBy(0, 1, -3, 2), -12);
        check.due(35, "none of it came", last.count(0), 3);
    }

    private static void hatsByRefusals() {
        HatsInRing x = new HatsInRing();
        x.sheet(0, 2, 40);
        int[][] due = {
            {-1, 2, 0, 1, -2}, {4, 2, 0, 1, -2}, {0, -1, 0, 1, -2}, {0, 3, 0, 1, -2}, {0, 2, 0, -1, -2},
            {0, 2, 0, 7, -2}, {1, 2, 0, 7, -2}, {1, 2, 0, 1, -11}, {1, 0, 99, 1, -11}, {0, 0, 0, 1, -13},
            {0, 1, -1, 1, -13}, {0, 2, MOST, 1, -12}, {0, 2, LEAST, 6, -12}, {0, 2, 40, 1, -12}, {0, 2, 41, 1, -12},
        };
        for (int[] d : due) {
            check.due(35, "hatsBy(" + d[0] + ", " + d[1] + ", " + d[2] + ", " + d[3] + ")",
                x.hatsBy(d[0], d[1], d[2], d[3]), d[4]);
        }
        check.due(35, "none came", x.count(0), 0);
    }

    private static void taken() {
        int[][] is = {
            {1, 0, 0, 0, 0, 0}, {1, 1, 0, 0, 0, 0}, {1, 0, 1, 0, 0, 0},
            {1, 1, 0, 1, 0, 0}, {1, 0, 1, 0, 1, 0}, {1, 0, 0, 0, 0, 1},
        };
        HatsInRing x = new HatsInRing();
        for (int p = 0; p < 5; p++) {
            x.hat(10 * p, 0, 100 * p);
        }
        check.due(36, "none such", x.taken(5, 0), -11);
        check.due(36, "none such", x.taken(5, 6), -11);
        check.due(36, "none such", x.taken(11, 6), -11);
        check.due(36, "none such", x.taken(11, 0), -11);
        x.hat(50, 0, 500);
        for (int p = 0; p < 6; p++) {
            for (int kind = 0; kind < 6; kind++) {
                check.due(36, "taken(" + p + ", " + kind + ")", x.taken(p, kind), is[p][kind] == 1 ? p : -13);
                check.due(36, "taken(" + (p + 6) + ", " + kind + ")", x.taken(p + 6, kind), -13);
            }
            check.due(36, "taken(" + p + ", 6)", x.taken(p, 6), -13);
            check.due(36, "taken(" + (p + 6) + ", 6)", x.taken(p + 6, 6), p);
        }
        int[][] due = {{0, 7, -2}, {0, -1, -2}, {12, 7, -2}, {12, 0, -12}, {-1, 6, -12}, {MOST, 0, -12}, {LEAST, 0, -12}};
        for (int[] d : due) {
            check.due(36, "taken(" + d[0] + ", " + d[1] + ")", x.taken(d[0], d[1]), d[2]);
        }
    }
}
