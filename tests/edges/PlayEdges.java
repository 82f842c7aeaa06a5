import java.util.List;

/** "Terms", NEAREST to SHEETS. */
final class PlayEdges {
    private final Edge edge;

    PlayEdges(Edge edge) {
        this.edge = edge;
    }

    void test() {
        nearest();
        turns();
        steps();
        felt();
        blows();
        tally();
        pride();
        roundAtLast();
        rings();
        twentyRounds();
        lots();
        image();
        sheets();
    }

    private void nearest() {
        edge.of("NEAREST", "NEAREST of a HAT: of all others that are UP the least FAR, of like ones the first; -1: none is.");
        HatsInRing x = Edge.ring(0, 27, 100);
        edge.due("one alone", x.told(0, 7), -1);
        x.hat(0, 27, 0);
        edge.due("the other one is FLAT", x.told(0, 7), -1);
        edge.due("of one that is FLAT", x.told(1, 7), 0);
        x.hat(0, 45, 100);
        edge.due("the only one, 4 FAR", x.told(0, 7), 2);
        x.hat(0, 36, 100);
        edge.due("2 FAR", x.told(0, 7), 3);
        x.hat(0, 25, 100);
        edge.due("2 FAR, too, but behind", x.told(0, 7), 3);
        x.put(2, 0, 29);
        edge.due("2 FAR, too, and ahead", x.told(0, 7), 2);
        edge.due("told(4, 7)", x.told(4, 7), 0);
        x.hat(0, 27, 100);
        edge.due("AT the same PLACE", x.told(0, 7), 5);
        edge.due("AT the same PLACE", x.told(5, 7), 0);
        x.put(1, 1, 1);
        edge.due("AT the same PLACE, ahead", x.told(0, 7), 1);
        edge.due("AT the same PLACE, ahead", x.told(5, 7), 0);
        HatsInRing most = Edge.ring(0, 0, 100, 0, 63, 100);
        edge.due("as FAR as can be", most.told(0, 7), 1);
        edge.due("as FAR as can be", most.told(1, 7), 0);
        HatsInRing edges = Edge.ring(0, 7, 100, 0, 8, 100, 0, 5, 100);
        edge.due("the next PLACE, in another ROW, is 8 FAR", edges.told(0, 7), 2);
    }

    private void turns() {
        edge.of("A ROUND", "one by one, by numbers, each that is UP and GOES (told as all is then), if there is a NEAREST");
        HatsInRing x = Edge.ring(0, 0, 500, 0, 0, 500, 0, 0, 500);
        edge.due("0 lays 1 FLAT, 2 lays 0 FLAT", x.round(), 3);
        edge.due("1 had no turn", x.told(1, 2), 0);
        edge.due("2 had a turn", x.told(2, 2), 1);
        edge.due("BLOWS of 0", x.told(0, 3), 1);
        HatsInRing alone = Edge.ring(0, 9, 1203);
        List<Integer> was = Edge.state(alone);
        edge.due("one alone", alone.round(), 0);
        was.set(1, 1);
        edge.same("one alone: but for ROUND nothing is otherwise", Edge.state(alone), was);
        edge.due("an empty ring", new HatsInRing().round(), 0);
        HatsInRing flat = Edge.ring(0, 0, 0, 0, 0, 9900);
        edge.due("one that is FLAT", flat.run(1, 1), 0);
        HatsInRing goes = Edge.by("goes blows=0 and pride<2;hits 10*blows+pride+up;soft 2*blows;", 0, 0, 5001, 0, 0, 5000, 0, 0, 305);
        goes.round();
        edge.due("0 hits 1 by 1 + 3", goes.told(1, 1), 46);
        edge.due("1 was hit, and GOES not", goes.told(1, 2), 0);
        edge.due("0 isn't hit by 1", goes.told(0, 3), 0);
        goes.put(2, 2, 0);
        goes.put(0, 2, 9);
        goes.round();
        edge.due("2 hits 0 by 0 + 3", goes.told(0, 1), 47);
        HatsInRing up = Edge.by("goes 1;hits 5*up;soft 0;", 0, 0, 1500, 0, 1, 1500, 0, 2, 9900);
        edge.due("round()", up.round(), 2);
        edge.due("UP as all is then: 0 hits by 15, 2 steps", up.told(2, 0), 1);
        edge.due("two are UP then", up.asks(1, 2), 10);
        edge.due("round()", up.round(), 0);
        edge.due("both hit by 10", up.told(0, 1) * 100 + up.told(2, 1), 589);
        HatsInRing soft = Edge.by("goes 1;hits 9;soft 3*blows;", 0, 0, 9900, 50, 1, 9900, 0, 2, 9900);
        soft.round();
        edge.due("SOFT 0, then 3 times 3", soft.told(1, 1), 90);
    }

    /** Where one comes to from a PLACE, by a SCARECROW at another one. */
    private void steps() {
        edge.of("A ROUND", "is that more than 1 FAR, one STEPS: a ROW nearer, if it is in another ROW, else a COLUMN");
        int[][] due = {{0, 2, 1}, {0, 7, 1}, {2, 0, 1}, {7, 0, 6}, {63, 61, 62}, {56, 63, 57}, {63, 56, 62}, {0, 16, 8}, {16, 0, 8},
            {0, 9, 8}, {9, 0, 1}, {1, 8, 9}, {8, 1, 0}, {0, 63, 8}, {63, 0, 55}, {7, 56, 15}, {56, 7, 48}, {7, 8, 15}, {8, 7, 0},
            {55, 56, 63}, {63, 54, 55}, {27, 29, 28}, {29, 27, 28}, {27, 43, 35}, {43, 27, 35}};
        for (int[] d : due) {
            HatsInRing x = Edge.ring(0, d[0], 100, 50, d[1], 100);
            x.round();
            edge.due("from " + d[0] + ", by one at " + d[1], x.told(0, 0), d[2]);
            edge.due("no hit", x.told(1, 3) + x.told(0, 2) + x.duel(0, 1, 3), 0);
        }
        int[][] beside = {{0, 0}, {0, 1}, {1, 0}, {0, 8}, {8, 0}, {63, 62}, {63, 55}, {63, 63}};
        for (int[] d : beside) {
            HatsInRing x = Edge.ring(0, d[0], 900, 50, d[1], 900);
            x.round();
            edge.due("at " + d[0] + ", by one at " + d[1], x.told(0, 0), d[0]);
            edge.due("a hit", x.told(1, 3), 1);
        }
    }

    private void felt() {
        edge.of("A ROUND", "else one hits it: its FELT is less by a BLOW (0 at least)");
        int[][] due = {{5, 1, 0}, {5, 4, 0}, {5, 5, 0}, {5, 6, 1}, {99, 1, 0}, {99, 99, 0}, {98, 99, 1}, {0, 1, 1}, {0, 99, 99}};
        for (int[] d : due) {
            HatsInRing x = Edge.by("goes 1;hits " + d[0] + ";soft 0;", 0, 0, 100, 50, 0, 100 * d[1]);
            edge.due("round()", x.round(), d[2] == 0 ? 2 : 0);
            edge.due("FELT " + d[1] + " less a BLOW of " + d[0], x.told(1, 1), d[2]);
        }
    }

    /** 0 hits 1, a SCARECROW, by BLOWS of 0. */
    private static HatsInRing two() {
        return Edge.by("goes 1;hits 0;soft 0;", 0, 0, 100, 50, 0, 100);
    }

    private void blows() {
        edge.of("A ROUND", "its BLOWS 1 more (99 at most)");
        HatsInRing x = two();
        int[][] due = {{0, 1}, {97, 98}, {98, 99}, {99, 99}};
        for (int[] d : due) {
            x.put(1, 3, d[0]);
            x.round();
            edge.due("BLOWS " + d[0], x.told(1, 3), d[1]);
            edge.due("one's own", x.told(0, 3), 0);
        }
    }

    private void tally() {
        edge.of("A ROUND", "TALLY of the two 1 more (99 at most)");
        HatsInRing x = two();
        for (int n = 1; n <= 103; n++) {
            x.round();
            edge.due("behind " + n + " ROUNDS", x.duel(0, 1, 3), Math.min(99, n));
        }
        edge.due("the other way", x.duel(1, 0, 3), 0);
        edge.due("all, together", x.run(60, 1), 99);
    }

    private void pride() {
        edge.of("A ROUND", "one's PRIDE 1 more (99 at most)");
        HatsInRing x = two();
        int[][] due = {{0, 1}, {97, 98}, {98, 99}, {99, 99}};
        for (int[] d : due) {
            x.put(0, 2, d[0]);
            x.round();
            edge.due("PRIDE " + d[0], x.told(0, 2), d[1]);
            edge.due("the other one's", x.told(1, 2), 0);
        }
        HatsInRing step = Edge.ring(0, 0, 100, 50, 2, 100);
        step.round();
        edge.due("by a step", step.told(0, 2), 0);
    }

    private void roundAtLast() {
        edge.of("A ROUND", "At last ROUND is 1 more.");
        HatsInRing x = Edge.by("goes 1;hits round;soft 0;", 0, 0, 9900, 0, 0, 9900);
        x.bell(7);
        x.round();
        edge.due("both hit as in ROUND 7", x.told(0, 1) * 100 + x.told(1, 1), 9292);
        edge.due("count(1)", x.count(1), 8);
        HatsInRing empty = new HatsInRing();
        empty.round();
        edge.due("count(1), empty", empty.count(1), 1);
        empty.bell(998);
        empty.round();
        edge.due("count(1), from 998 on", empty.count(1), 999);
    }

    /** SEED's LOTS, as PLACES. */
    private static int[] lotsOf(long seed) {
        int[] places = new int[6];
        long lot = seed + 1;
        for (int p = 0; p < 6; p++) {
            lot = lot * 48271 % 2147483647;
            places[p] = (int) (lot % 64);
        }
        return places;
    }

    private static final int[] KINDS = {3, 14, 21, 36, 43, 7};

    /** Six HATS, all AT 0 or by LOTS. */
    private static HatsInRing six(int[] places) {
        HatsInRing x = new HatsInRing();
        for (int p = 0; p < 6; p++) {
            x.hat(KINDS[p], places[p], 100 * (p == 4 ? 0 : 20 + 13 * p) + p);
        }
        x.bell(990);
        return x;
    }

    private void rings() {
        edge.of("RINGS", "RINGS by a SEED (0 .. 99999), in thought: HAT by HAT a LOT: it is AT PLACE (LOT modulo 64)");
        HatsInRing x = six(new int[6]);
        List<Integer> was = Edge.state(x);
        for (int seed : new int[] {0, 1, 2, 3, 99997, 99998, 99999}) {
            HatsInRing y = six(lotsOf(seed));
            edge.due("drawn(" + seed + ", 0)", x.drawn(seed, 0), y.run(20, 0));
            edge.due("drawn(" + seed + ", 1)", x.drawn(seed, 1), y.run(20, 1));
        }
        edge.due("drawn(-1, 0)", x.drawn(-1, 0), -2);
        edge.due("drawn(100000, 0)", x.drawn(100000, 0), -2);
        edge.same("in thought", Edge.state(x), was);
        edge.due("no HATS", new HatsInRing().drawn(5, 0), 0);
    }

    /** By SEED 0 0 is AT 15 and 1 AT 34: in the fourth ROUND 0 comes beside 1, and is hit from then on. */
    private void twentyRounds() {
        edge.of("RINGS", "then 20 ROUNDS");
        HatsInRing x = Edge.ring(0, 0, 8500, 0, 0, 9900);
        edge.due("laid FLAT in the last one", x.drawn(0, 0), 2);
        edge.due("all TALLIES", x.drawn(0, 1), 33);
        x.put(0, 1, 86);
        edge.due("not laid FLAT by then", x.drawn(0, 0), 3);
        edge.due("odds(0, 1, 0, 0)", x.odds(0, 1, 0, 0), 1);
        x.put(0, 1, 85);
        edge.due("odds(0, 1, 0, 0)", x.odds(0, 1, 0, 0), 0);
    }

    private void lots() {
        edge.of("LOTS", "LOTS: the first is (SEED and 1) times 48271 modulo 2147483647, "
            + "each further one the last times 48271 modulo 2147483647.");
        HatsInRing x = six(new int[6]);
        for (int seed : new int[] {44486, 44487, 44488, 44489, 48270, 65535, 88976, 88977, 88978}) {
            HatsInRing y = six(lotsOf(seed));
            edge.due("drawn(" + seed + ", 0)", x.drawn(seed, 0), y.run(20, 0));
            edge.due("drawn(" + seed + ", 1)", x.drawn(seed, 1), y.run(20, 1));
        }
        edge.due("the first LOT of SEED 0", lotsOf(0)[0], 48271 % 64);
        edge.due("the second LOT of SEED 0", lotsOf(0)[1], 182605794 % 64);
        edge.due("the first LOT of SEED 44488", lotsOf(44488)[0], 44872 % 64);
    }

    private void image() {
        edge.of("AN IMAGE", "AN IMAGE keeps where all HATS are, FELT, PRIDE, BLOWS, TALLIES, how many there are, ROUND, THE LAW.");
        HatsInRing x = Edge.by("goes 1;hits 7;soft 0;", 0, 0, 9900, 14, 1, 9007, 50, 63, 0);
        x.round();
        List<Integer> was = Edge.state(x);
        edge.due("image()", x.image(), 3);
        int[][] puts = {{0, 0, 63}, {0, 1, 0}, {1, 2, 99}, {2, 3, 99}, {2, 1, 99}, {2, 0, 0}};
        for (int[] d : puts) {
            x.put(d[0], d[1], d[2]);
            edge.due("back()", x.back(), 3);
            edge.same("put(" + d[0] + ", " + d[1] + ", " + d[2] + "), and back", Edge.state(x), was);
        }
        x.round();
        x.round();
        x.back();
        edge.same("ROUNDS, TALLIES, and back", Edge.state(x), was);
        x.force(0);
        x.bell(999);
        x.hat(0, 0, 9900);
        x.back();
        edge.same("THE LAW, ROUND, one more HAT, and back", Edge.state(x), was);
    }

    private void sheets() {
        edge.of("SHEETS", "SHEETS 0 .. 3 are rows of numbers, or missing (as all are at first): "
            + "of sort 0 bytes, 1 shorts, 2 ints, 40 at most.");
        HatsInRing x = new HatsInRing();
        for (int s = -1; s <= 4; s++) {
            boolean such = s >= 0 && s <= 3;
            edge.due("cell(" + s + ", 0, 0) at first", x.cell(s, 0, 0), such ? -11 : -2);
            edge.due("sheet(" + s + ", 2, 40)", x.sheet(s, 2, 40), such ? 1 : -2);
            edge.due("cell(" + s + ", 39, 0)", x.cell(s, 39, 0), such ? 1 : -2);
            edge.due("cell(" + s + ", 40, 0)", x.cell(s, 40, 0), such ? -12 : -2);
        }
        for (int sort = -2; sort <= 3; sort++) {
            edge.due("sheet(0, " + sort + ", 40)", x.sheet(0, sort, 40), sort >= -1 && sort <= 2 ? 1 : -2);
            edge.due("sheet(0, " + sort + ", 41)", x.sheet(0, sort, 41), sort == -1 ? 1 : -2);
        }
        HatsInRing y = Edge.ring(50, 0, 900);
        for (int sort = 0; sort < 3; sort++) {
            int[] least = {-128, -32768, Edge.LEAST};
            int[] most = {127, 32767, Edge.MOST};
            for (int v : new int[] {least[sort], most[sort], 9}) {
                y.sheet(0, sort, 1);
                y.cell(0, 0, v);
                edge.due("sort " + sort + " holds " + v, y.judge(0, 0), v == 9 ? -1 : 0);
            }
        }
    }
}
