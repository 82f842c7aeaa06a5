import java.util.List;

/** Promises 28 to 31: rings by lots, images. */
final class LotsEdges {
    private static final long NO = HatsInRing.NO;
    private final Edge edge;

    LotsEdges(Edge edge) {
        this.edge = edge;
    }

    void test() {
        drawn();
        odds();
        oddsTerms();
        oddsRefused();
        image();
        back();
    }

    private void drawn() {
        edge.of(28, "which HATS are UP then (what 0; bits), all TALLIES, together (1)");
        HatsInRing none = new HatsInRing();
        edge.due("no HATS", none.drawn(0, 0), 0);
        edge.due("no HATS", none.drawn(99999, 1), 0);
        HatsInRing six = Edge.ring(50, 0, 100, 50, 0, 100, 50, 0, 100, 50, 0, 100, 50, 0, 100, 50, 0, 100);
        List<Integer> was = Edge.state(six);
        for (int seed : new int[] {0, 1, 99999}) {
            edge.due("all are UP", six.drawn(seed, 0), 63);
            edge.due("no TALLIES", six.drawn(seed, 1), 0);
        }
        edge.same("in thought", Edge.state(six), was);
        six.put(5, 1, 0);
        edge.due("all but the last one are UP", six.drawn(0, 0), 31);
        HatsInRing tallies = Edge.ring(0, 0, 9900, 0, 0, 9900);
        tallies.round();
        edge.due("TALLIES that were there count", tallies.drawn(0, 1), 33 + 2);
        tallies.image();
        tallies.put(0, 1, 0);
        edge.due("of the ring as it is, not as in THE IMAGE", tallies.drawn(0, 0), 2);
        edge.due("of the ring as it is, not as in THE IMAGE", tallies.drawn(0, 1), 2);

        edge.of(28, "BAD.");
        for (int seed : new int[] {-1, 100000, Edge.LEAST, Edge.MOST}) {
            edge.due("drawn(" + seed + ", 0)", six.drawn(seed, 0), -2);
        }
        for (int what : new int[] {-1, 2, Edge.LEAST, Edge.MOST}) {
            edge.due("drawn(0, " + what + ")", six.drawn(0, what), -2);
        }
    }

    /** How often one is UP by so many seeds, of which none is above 99999, as drawn() tells. */
    private static int up(int seed, int seeds, int p) {
        HatsInRing x = three();
        int up = 0;
        for (int i = 0; i < seeds; i++) {
            up += x.drawn(seed + i, 0) >> p & 1;
        }
        return up;
    }

    private void odds() {
        edge.of(29, "By how many of so many (1 .. 40) seeds, SEED and each 1 more (they may pass 99999), one is UP then");
        HatsInRing x = three();
        for (int seed : new int[] {0, 1, 99960, 99999}) {
            for (int seeds : new int[] {1, 2, 39, 40}) {
                for (int p = 0; seed + seeds <= 100000 && p < 3; p++) {
                    int up = up(seed, seeds, p);
                    long above = x.odds(seed, seeds, p, 0);
                    long below = x.odds(seed, seeds, p, 1);
                    edge.due("odds(" + seed + ", " + seeds + ", " + p + ", ..)", above * seeds, below * up);
                }
            }
        }
        int up = 0;
        for (int seed = 99999; seed < 100039; seed++) {
            up += byLots(seed, 8500, 9900);
        }
        HatsInRing two = Edge.ring(0, 0, 8500, 0, 0, 9900);
        edge.due("some of 40", up > 0 && up < 40 ? 1 : 0, 1);
        edge.due("odds(99999, 40, 0, ..)", two.odds(99999, 40, 0, 0) * 40, two.odds(99999, 40, 0, 1) * up);
    }

    private static HatsInRing three() {
        return Edge.ring(0, 0, 8800, 14, 0, 9900, 27, 0, 6000);
    }

    /** 1 if the first of two HATS is UP behind 20 ROUNDS, from the PLACES that the LOTS of a seed tell. */
    private static int byLots(long seed, int feltPride, int otherFeltPride) {
        long first = (seed + 1) * 48271 % 2147483647;
        long second = first * 48271 % 2147483647;
        HatsInRing x = Edge.ring(0, (int) (first % 64), feltPride, 0, (int) (second % 64), otherFeltPride);
        return x.run(20, 0) & 1;
    }

    private void oddsTerms() {
        edge.of(29, "part 0 above, 1 below the line, in lowest terms");
        HatsInRing always = Edge.ring(50, 0, 100, 50, 0, 0);
        for (int seeds = 1; seeds <= 40; seeds += 13) {
            edge.due("always UP, above", always.odds(7, seeds, 0, 0), 1);
            edge.due("always UP, below", always.odds(7, seeds, 0, 1), 1);
            edge.due("never UP, above", always.odds(7, seeds, 1, 0), 0);
            edge.due("never UP, below", always.odds(7, seeds, 1, 1), 1);
        }
        HatsInRing x = three();
        for (int seeds = 2; seeds <= 40; seeds += 2) {
            long above = x.odds(300, seeds, 0, 0);
            long below = x.odds(300, seeds, 0, 1);
            edge.due("in lowest terms, of " + seeds, greatest(above, below), 1);
            edge.due("a part of " + seeds, seeds % below, 0);
        }
    }

    private static long greatest(long a, long b) {
        return b == 0 ? a : greatest(b, a % b);
    }

    private void oddsRefused() {
        edge.of(29, "NO: none such.");
        HatsInRing x = Edge.ring(0, 0, 100, 0, 0, 100);
        for (int seed : new int[] {-1, 100000, Edge.LEAST, Edge.MOST}) {
            edge.due("odds(" + seed + ", 1, 0, 0)", x.odds(seed, 1, 0, 0), NO);
        }
        for (int seeds : new int[] {-1, 0, 41, Edge.LEAST, Edge.MOST}) {
            edge.due("odds(0, " + seeds + ", 0, 0)", x.odds(0, seeds, 0, 0), NO);
        }
        for (int p : new int[] {-1, 2, 6, Edge.LEAST, Edge.MOST}) {
            edge.due("odds(0, 1, " + p + ", 0)", x.odds(0, 1, p, 0), NO);
        }
        for (int part : new int[] {-1, 2, Edge.LEAST, Edge.MOST}) {
            edge.due("odds(0, 1, 0, " + part + ")", x.odds(0, 1, 0, part), NO);
        }
        edge.due("no HATS", new HatsInRing().odds(0, 1, 0, 0), NO);
    }

    private void image() {
        edge.of(30, "AN IMAGE is kept: how many HATS.");
        HatsInRing x = new HatsInRing();
        for (int hats = 0; hats <= 6; hats++) {
            edge.due("image()", x.image(), hats);
            edge.due("image(), once more", x.image(), hats);
            edge.due("back()", x.back(), hats);
            edge.due("hat(0, 0, 100)", x.hat(0, 0, 100), hats == 6 ? -4 : hats);
        }
        HatsInRing y = Edge.ring(0, 5, 100);
        y.image();
        y.put(0, 0, 6);
        y.image();
        y.put(0, 0, 7);
        y.back();
        edge.due("the last one is kept", y.told(0, 0), 6);
        HatsInRing flat = Edge.ring(0, 5, 0, 0, 5, 0);
        edge.due("one that is FLAT is a HAT, too", flat.image(), 2);
    }

    private void back() {
        edge.of(31, "All that it keeps is as in THE IMAGE, HATS that came since are none: how many there are.");
        HatsInRing x = new HatsInRing();
        x.image();
        for (int p = 0; p < 6; p++) {
            x.hat(0, 0, 9900);
        }
        x.bell(999);
        edge.due("back(), no HATS", x.back(), 0);
        edge.due("count(0)", x.count(0), 0);
        edge.due("count(1)", x.count(1), 0);
        edge.due("told(0, 0)", x.told(0, 0), -5);
        edge.due("back(), once more", x.back(), 0);
        HatsInRing y = Edge.ring(0, 0, 9900, 0, 63, 9900);
        y.image();
        List<Integer> was = Edge.state(y);
        for (int i = 0; i < 3; i++) {
            y.hat(59, 5, 9999);
            y.round();
            edge.due("back()", y.back(), 2);
            edge.same("back()", Edge.state(y), was);
            edge.due("told(2, 0)", y.told(2, 0), -5);
            edge.due("run(1, 12)", y.run(1, 12), -2);
        }
        y.hat(12, 7, 3344);
        int[] told = {7, 33, 44, 0, 1, 2};
        for (int what = 0; what < 6; what++) {
            edge.due("told(2, " + what + ") of a new one", y.told(2, what), told[what]);
        }
        edge.due("its TALLIES", y.duel(2, 0, 3) + y.duel(0, 2, 3), 0);
        Check.text(y, "goes 1;hits 1;soft 1;");
        y.back();
        edge.due("TEXTS stay", y.count(3), 2);

        edge.of(31, "STATE: there is none.");
        edge.due("back(), no HATS", new HatsInRing().back(), -3);
        HatsInRing z = Edge.ring(0, 0, 100);
        edge.due("back()", z.back(), -3);
        edge.due("count(0)", z.count(0), 1);
        edge.due("back(), once more", z.back(), -3);
        edge.due("image()", z.image(), 1);
        edge.due("back()", z.back(), 1);
    }
}
