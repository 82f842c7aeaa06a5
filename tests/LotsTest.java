/** Promises 28 to 31: rings by lots, images. */
public final class LotsTest {
    private static final Check check = new Check();

    public static void main(String[] args) {
        drawn();
        odds();
        images();
        kept();
        newOnes();
        check.end();
    }

    /**
     * By SEED 0 the lots are 48271 and 182605794: PLACES 15 and 34, 8 FAR. In the fourth round 0 comes
     * beside 1 and is hit; then each hits 16 times more.
     */
    private static HatsInRing two() {
        HatsInRing x = new HatsInRing();
        x.hat(0, 0, 9900);
        x.hat(0, 0, 9900);
        return x;
    }

    private static void drawn() {
        HatsInRing x = two();
        check.due(28, "drawn(0, 0)", x.drawn(0, 0), 3);
        check.due(28, "drawn(0, 1)", x.drawn(0, 1), 33);
        x.put(0, 1, 85);
        check.due(28, "0 is hit 17 times", x.drawn(0, 0), 2);
        x.put(0, 1, 86);
        check.due(28, "0 is hit 17 times", x.drawn(0, 0), 3);
        x.put(1, 1, 80);
        check.due(28, "1 is hit 16 times", x.drawn(0, 0), 1);
        check.due(28, "PLACE stays", x.told(0, 0), 0);
        check.due(28, "ROUND stays", x.count(1), 0);
        check.due(28, "drawn(99999, 0)", x.drawn(99999, 0) >= 0 ? 1 : 0, 1);
        check.due(28, "drawn(100000, 0)", x.drawn(100000, 0), -2);
        check.due(28, "drawn(-1, 0)", x.drawn(-1, 0), -2);
        check.due(28, "drawn(0, 2)", x.drawn(0, 2), -2);
        check.due(28, "drawn(0, -1)", x.drawn(0, -1), -2);
        HatsInRing flat = new HatsInRing();
        flat.hat(0, 0, 0);
        flat.hat(0, 0, 9900);
        flat.hat(0, 0, 9900);
        check.due(28, "a FLAT one has its lot", flat.drawn(0, 1), flatTallies());
    }

    /** By SEED 0 the third lot is 182605794 * 48271 modulo 2147483647; from there on by rounds. */
    private static int flatTallies() {
        long third = 182605794L * 48271 % 2147483647;
        HatsInRing x = new HatsInRing();
        x.hat(0, 34, 9900);
        x.hat(0, (int) (third % 64), 9900);
        return x.run(20, 1);
    }

    private static void odds() {
        HatsInRing x = two();
        x.hat(50, 0, 0);
        check.due(29, "odds(0, 1, 0, 0)", x.odds(0, 1, 0, 0), 1);
        check.due(29, "odds(0, 1, 0, 1)", x.odds(0, 1, 0, 1), 1);
        check.due(29, "FLAT", x.odds(0, 40, 2, 0), 0);
        check.due(29, "FLAT", x.odds(0, 40, 2, 1), 1);
        int up = 0;
        x.put(0, 1, 88);
        for (int seed = 0; seed < 12; seed++) {
            up += x.drawn(seed, 0) & 1;
        }
        long above = x.odds(0, 12, 0, 0);
        long below = x.odds(0, 12, 0, 1);
        check.due(29, "some of 12", up > 0 && up < 12 ? 1 : 0, 1);
        check.due(29, "as many as drawn() tells", above * 12, up * below);
        check.due(29, "in lowest terms", 12 % below, 0);
        check.due(29, "in lowest terms", below, 12 / greatest(up, 12));
        check.due(29, "they may pass 99999", x.odds(99999, 40, 2, 1), 1);
        long no = HatsInRing.NO;
        check.due(29, "odds(-1, 1, 0, 0)", x.odds(-1, 1, 0, 0), no);
        check.due(29, "odds(100000, 1, 0, 0)", x.odds(100000, 1, 0, 0), no);
        check.due(29, "odds(0, 0, 0, 0)", x.odds(0, 0, 0, 0), no);
        check.due(29, "odds(0, 41, 0, 0)", x.odds(0, 41, 0, 0), no);
        check.due(29, "odds(0, 1, 3, 0)", x.odds(0, 1, 3, 0), no);
        check.due(29, "odds(0, 1, -1, 0)", x.odds(0, 1, -1, 0), no);
        check.due(29, "odds(0, 1, 0, 2)", x.odds(0, 1, 0, 2), no);
        check.due(29, "odds(0, 1, 0, -1)", x.odds(0, 1, 0, -1), no);
    }

    private static int greatest(int a, int b) {
        return b == 0 ? a : greatest(b, a % b);
    }

    private static void images() {
        HatsInRing x = new HatsInRing();
        check.due(31, "back(), none", x.back(), -3);
        check.due(30, "image()", x.image(), 0);
        x.hat(0, 0, 100);
        check.due(31, "back()", x.back(), 0);
        check.due(31, "count(0)", x.count(0), 0);
        x.hat(0, 0, 100);
        x.hat(0, 0, 100);
        check.due(30, "image()", x.image(), 2);
        check.due(31, "back()", x.back(), 2);
        check.due(31, "back(), once more", x.back(), 2);
    }

    private static void kept() {
        HatsInRing x = new HatsInRing();
        x.hat(14, 0, 5007);
        x.hat(25, 1, 6003);
        x.round();
        Check.text(x, "goes 1;hits 9;soft 0;");
        int[][] were = new int[2][9];
        for (int p = 0; p < 2; p++) {
            for (int what = 0; what < 9; what++) {
                were[p][what] = x.told(p, what);
            }
        }
        x.image();
        x.force(1);
        x.hat(0, 2, 100);
        Check.text(x, "goes 1;hits 8;soft 0;");
        x.feed(1, 1, 1, 1, 1, 1);
        x.sheet(0, 0, 3);
        for (int i = 0; i < 4; i++) {
            x.round();
        }
        x.put(0, 0, 63);
        check.due(31, "back()", x.back(), 2);
        for (int p = 0; p < 2; p++) {
            for (int what = 0; what < 9; what++) {
                check.due(31, "told(" + p + ", " + what + ")", x.told(p, what), were[p][what]);
            }
        }
        check.due(31, "TALLY", x.duel(0, 1, 3), 1);
        check.due(31, "TALLY", x.duel(1, 0, 3), 1);
        int[] counts = {2, 1, 2, 3, 0, 1};
        for (int what = 0; what < counts.length; what++) {
            check.due(31, "count(" + what + ")", x.count(what), counts[what]);
        }
        check.due(31, "SHEETS stay", x.cell(0, 2, 1), 1);
        x.round();
        x.image();
        x.put(0, 1, 1);
        x.back();
        check.due(30, "a later image takes its place", x.count(1), 2);
    }

    /** One that comes where another one was has none of its BLOWS and TALLIES. */
    private static void newOnes() {
        HatsInRing x = new HatsInRing();
        x.hat(0, 0, 9900);
        x.image();
        x.hat(14, 0, 9907);
        x.round();
        x.image();
        x.back();
        check.due(31, "TALLY", x.duel(0, 1, 3), 1);
        HatsInRing y = new HatsInRing();
        y.hat(0, 0, 9900);
        y.image();
        y.hat(14, 0, 9907);
        y.round();
        y.back();
        check.due(31, "told(1, 0)", y.told(1, 0), -5);
        y.hat(25, 3, 1201);
        int[] facts = {3, 12, 1, 0, 2, 5};
        for (int what = 0; what < facts.length; what++) {
            check.due(31, "told(1, " + what + ")", y.told(1, what), facts[what]);
        }
        check.due(31, "TALLY", y.duel(0, 1, 3), 0);
        check.due(31, "TALLY", y.duel(1, 0, 3), 0);
        check.due(31, "all TALLIES", y.run(0, 1), 0);
    }
}
