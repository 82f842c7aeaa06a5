import java.util.List;

/** Promises 16 to 20: what is best. */
final class BestEdges {
    private static final long NO = HatsInRing.NO;
    private final Edge edge;

    BestEdges(Edge edge) {
        this.edge = edge;
    }

    void test() {
        beaten();
        beatenAlone();
        beatenRefused();
        toss();
        tossRounds();
        tossRefused();
        rid();
        ridRounds();
        ridRefused();
        lasts();
        lastsRefused();
        betting();
        bettingRefused();
    }

    /** 0 hits 1, a SCARECROW, by 1 in each ROUND. */
    private static HatsInRing hitByOne(int felt) {
        return Edge.by("goes 1;hits 1;soft 0;", 0, 0, 9900, 50, 0, 100 * felt);
    }

    private void beaten() {
        edge.of(16, "All others such that, were all FLAT but one and that one, one is UP behind 60 ROUNDS, "
            + "and that one isn't (what 0; bits), how many (1).");
        int[][] due = {{1, 2}, {60, 2}, {61, 0}, {99, 0}, {0, 2}};
        for (int[] d : due) {
            edge.due("beaten(0, 0), FELT " + d[0], hitByOne(d[0]).beaten(0, 0), d[1]);
            edge.due("beaten(0, 1), FELT " + d[0], hitByOne(d[0]).beaten(0, 1), d[1] / 2);
        }
        edge.due("one isn't UP", hitByOne(1).beaten(1, 0), 0);
        edge.due("one's FELT is 1", Edge.ring(0, 0, 100, 50, 0, 100).beaten(0, 0), 2);
        edge.due("one's FELT is 1 then", Edge.by("goes 1;hits 98;soft 0;", 0, 0, 9900, 0, 0, 9900).beaten(0, 0), 2);
        edge.due("the other one's FELT is 1 then", Edge.by("goes 1;hits 1;soft 0;", 0, 0, 9900, 50, 0, 6100).beaten(0, 0), 0);
        HatsInRing flat = Edge.ring(0, 0, 0, 0, 0, 0);
        edge.due("both are FLAT", flat.beaten(0, 0), 0);
        edge.due("alone", Edge.ring(0, 0, 100).beaten(0, 0), 0);
        edge.due("alone", Edge.ring(0, 0, 100).beaten(0, 1), 0);
        HatsInRing six = Edge.ring(0, 9, 9900, 0, 9, 100, 0, 9, 100, 0, 9, 100, 0, 9, 100, 0, 9, 100);
        List<Integer> was = Edge.state(six);
        edge.due("all five others", six.beaten(0, 0), 62);
        edge.due("all five others", six.beaten(0, 1), 5);
        edge.due("the last one beats none", six.beaten(5, 0), 0);
        edge.same("they are as they were", Edge.state(six), was);
        HatsInRing last = Edge.ring(0, 9, 500, 0, 9, 500, 0, 9, 500, 0, 9, 500, 0, 9, 500, 0, 9, 9900);
        edge.due("the last one beats all", last.beaten(5, 0), 31);
    }

    private void beatenAlone() {
        HatsInRing guarded = Edge.ring(0, 0, 9900, 50, 63, 500, 59, 1, 9900);
        edge.due("2 can't be laid FLAT, but 0 comes to 1, as 2 is FLAT", guarded.beaten(0, 0), 2);
        HatsInRing third = Edge.ring(50, 0, 500, 50, 63, 9900, 0, 1, 9900);
        edge.due("2 alone beats both", third.beaten(2, 0), 3);
        edge.due("0 beats none, though 2 would", third.beaten(1, 0), 0);
        HatsInRing up = Edge.by("goes up<3;hits 5;soft 0;", 0, 0, 9900, 0, 0, 500, 0, 0, 9900);
        edge.due("just two are UP", up.beaten(0, 0), 2 | 4);
    }

    private void beatenRefused() {
        HatsInRing x = hitByOne(1);
        edge.of(16, "-5: none such");
        edge.due("beaten(2, 0)", x.beaten(2, 0), -5);
        edge.due("beaten(-1, 0)", x.beaten(-1, 0), -5);
        for (int far : Edge.FAR_OFF) {
            edge.due("beaten(" + far + ", 0)", x.beaten(far, 0), -5);
        }

        edge.of(16, "-7: what.");
        edge.due("beaten(0, 2)", x.beaten(0, 2), -7);
        edge.due("beaten(0, -1)", x.beaten(0, -1), -7);
        for (int far : Edge.FAR_OFF) {
            edge.due("beaten(0, " + far + ")", x.beaten(0, far), -7);
        }
    }

    private void toss() {
        edge.of(17, "The PLACE such that, were it AT that now, it would have most FELT");
        HatsInRing x = Edge.by("goes 1;hits 1;soft 0;", 50, 9, 9900, 0, 0, 9900);
        List<Integer> was = Edge.state(x);
        edge.due("13 ROUNDS: 14 FAR", x.toss(0, 13, 0), 63);
        edge.due("13 ROUNDS: 14 FAR", x.toss(0, 13, 1), 99);
        edge.same("it is where it was", Edge.state(x), was);
        x.put(1, 0, 63);
        edge.due("the first PLACE", x.toss(0, 13, 0), 0);
        x.put(1, 0, 7);
        edge.due("PLACE 56", x.toss(0, 13, 0), 56);
        x.put(1, 0, 56);
        edge.due("PLACE 7", x.toss(0, 13, 0), 7);

        edge.of(17, "of like ones the first (what 0), how much (1)");
        x.put(1, 0, 0);
        edge.due("1 ROUND: 2 FAR", x.toss(0, 1, 0), 2);
        edge.due("2 ROUNDS: 3 FAR", x.toss(0, 2, 0), 3);
        edge.due("7 ROUNDS: 8 FAR", x.toss(0, 7, 0), 15);
        edge.due("14 ROUNDS: 14 FAR", x.toss(0, 14, 0), 63);
        edge.due("14 ROUNDS", x.toss(0, 14, 1), 98);
        x.put(0, 1, 0);
        edge.due("all alike", x.toss(0, 40, 0), 0);
        edge.due("all alike", x.toss(0, 40, 1), 0);
        HatsInRing alone = Edge.ring(0, 63, 700);
        edge.due("alone", alone.toss(0, 40, 0), 0);
        edge.due("alone", alone.toss(0, 40, 1), 7);
    }

    private void tossRounds() {
        edge.of(17, "behind n ROUNDS (0 .. 40)");
        HatsInRing x = Edge.by("goes 1;hits 1;soft 0;", 50, 9, 9900, 0, 0, 9900);
        edge.due("toss(0, 0, 0)", x.toss(0, 0, 0), 0);
        edge.due("toss(0, 0, 1)", x.toss(0, 0, 1), 99);
        edge.due("toss(0, 39, 1)", x.toss(0, 39, 1), 99 - 39 + 13);
        edge.due("toss(0, 40, 1)", x.toss(0, 40, 1), 99 - 40 + 13);
        edge.due("toss(0, 41, 1)", x.toss(0, 41, 1), -7);
        edge.due("toss(0, -1, 1)", x.toss(0, -1, 1), -7);
    }

    private void tossRefused() {
        HatsInRing x = hitByOne(1);
        edge.of(17, "-5: none such");
        edge.due("toss(2, 1, 0)", x.toss(2, 1, 0), -5);
        edge.due("toss(-1, 1, 0)", x.toss(-1, 1, 0), -5);
        for (int far : Edge.FAR_OFF) {
            edge.due("toss(" + far + ", 1, 0)", x.toss(far, 1, 0), -5);
        }

        edge.of(17, "-7: n, what.");
        edge.due("toss(0, 1, 2)", x.toss(0, 1, 2), -7);
        edge.due("toss(0, 1, -1)", x.toss(0, 1, -1), -7);
        edge.due("toss(0, 41, 0)", x.toss(0, 41, 0), -7);
        edge.due("toss(0, -1, 0)", x.toss(0, -1, 0), -7);
        for (int far : Edge.FAR_OFF) {
            edge.due("toss(0, " + far + ", 0)", x.toss(0, far, 0), -7);
            edge.due("toss(0, 1, " + far + ")", x.toss(0, 1, far), -7);
        }
    }

    private void rid() {
        edge.of(18, "Which other one that is UP, being FLAT now, would make one have most FELT");
        HatsInRing x = Edge.ring(50, 0, 9900, 0, 0, 9900, 10, 0, 9900, 19, 0, 9900, 0, 0, 0, 0, 0, 9900);
        List<Integer> was = Edge.state(x);
        edge.due("who hits hardest: SILK, MORE 9", x.rid(0, 1, 0), 3);
        edge.due("99 less 3 times 5", x.rid(0, 1, 1), 84);
        edge.same("they are as they were", Edge.state(x), was);
        HatsInRing last = Edge.ring(50, 0, 9900, 50, 0, 9900, 50, 0, 9900, 50, 0, 9900, 50, 0, 9900, 0, 0, 9900);
        edge.due("the last one", last.rid(0, 1, 0), 5);
        HatsInRing self = Edge.ring(0, 0, 9900, 0, 63, 9900);
        edge.due("no other one", Edge.ring(0, 0, 9900).rid(0, 40, 0), -1);
        edge.due("one of FELT 1 is UP", Edge.ring(50, 0, 9900, 0, 0, 100).rid(0, 1, 0), 1);
        HatsInRing later = Edge.ring(50, 0, 9900, 0, 1, 500, 0, 2, 9900);
        edge.due("2 lays 1 FLAT", later.run(1, 0), 5);
        edge.due("one that is UP now, and FLAT behind n ROUNDS as it is", later.rid(0, 1, 0), 1);
        edge.due("one that is UP now, and FLAT behind n ROUNDS as it is", later.rid(0, 1, 1), 99);
        edge.due("not one itself", self.rid(0, 1, 0), -1);

        edge.of(18, "if more than so, of like ones the first (what 0; -1: none), how much (1; as so)");
        HatsInRing like = Edge.ring(50, 0, 9900, 50, 0, 9900, 0, 0, 9900, 0, 1, 9900);
        edge.due("2 and 3 are alike", like.rid(0, 1, 0), 2);
        edge.due("99 less 5", like.rid(0, 1, 1), 94);
        edge.due("none hits 2", like.rid(1, 1, 0), -1);
        edge.due("none: as so", like.rid(1, 1, 1), 99);
        like.put(2, 1, 0);
        edge.due("2 is FLAT as it is", like.rid(0, 1, 0), 3);
        HatsInRing flat = Edge.ring(0, 0, 0, 0, 0, 9900);
        edge.due("one that is FLAT", flat.rid(0, 1, 0), -1);
        edge.due("as so", flat.rid(0, 1, 1), 0);
        HatsInRing worse = Edge.ring(50, 27, 9900, 0, 30, 9900, 50, 29, 9900);
        edge.due("it is less without 2, and not more without 1", worse.rid(0, 10, 0), -1);
        edge.due("as so", worse.rid(0, 10, 1), 99);
        edge.due("more without 1", worse.rid(0, 40, 0), 1);
        edge.due("more without 1", worse.rid(0, 40, 1), 99);
        edge.due("alone: as so", Edge.ring(0, 0, 700).rid(0, 40, 1), 7);
    }

    private void ridRounds() {
        edge.of(18, "behind n ROUNDS (0 .. 40)");
        HatsInRing x = Edge.by("goes 1;hits 1;soft 0;", 50, 0, 9900, 0, 0, 9900, 0, 0, 9900);
        edge.due("rid(0, 0, 0)", x.rid(0, 0, 0), -1);
        edge.due("rid(0, 0, 1)", x.rid(0, 0, 1), 99);
        edge.due("rid(0, 1, 0)", x.rid(0, 1, 0), 1);
        edge.due("rid(0, 39, 1)", x.rid(0, 39, 1), 60);
        edge.due("rid(0, 40, 1)", x.rid(0, 40, 1), 59);
        edge.due("rid(0, 41, 1)", x.rid(0, 41, 1), -7);
        edge.due("rid(0, -1, 1)", x.rid(0, -1, 1), -7);
    }

    private void ridRefused() {
        HatsInRing x = hitByOne(1);
        edge.of(18, "-5: none such");
        edge.due("rid(2, 1, 0)", x.rid(2, 1, 0), -5);
        edge.due("rid(-1, 1, 0)", x.rid(-1, 1, 0), -5);
        for (int far : Edge.FAR_OFF) {
            edge.due("rid(" + far + ", 1, 0)", x.rid(far, 1, 0), -5);
        }

        edge.of(18, "-7: n, what.");
        edge.due("rid(0, 1, 2)", x.rid(0, 1, 2), -7);
        edge.due("rid(0, 1, -1)", x.rid(0, 1, -1), -7);
        edge.due("rid(0, 41, 0)", x.rid(0, 41, 0), -7);
        edge.due("rid(0, -1, 0)", x.rid(0, -1, 0), -7);
        for (int far : Edge.FAR_OFF) {
            edge.due("rid(0, " + far + ", 0)", x.rid(0, far, 0), -7);
            edge.due("rid(0, 1, " + far + ")", x.rid(0, 1, far), -7);
        }
    }

    private void lasts() {
        edge.of(19, "The least FELT (0 .. 99) such that, were it so much now, one is UP behind n ROUNDS (0 .. 40); -1: by none.");
        HatsInRing x = hitByOne(7);
        int[][] due = {{0, 1}, {1, 2}, {2, 3}, {39, 40}, {40, 41}};
        for (int[] d : due) {
            edge.due("lasts(1, " + d[0] + ")", x.lasts(1, d[0]), d[1]);
            edge.due("lasts(0, " + d[0] + ")", x.lasts(0, d[0]), 1);
        }
        edge.due("lasts(1, -1)", x.lasts(1, -1), -7);
        edge.due("lasts(1, 41)", x.lasts(1, 41), -7);
        edge.due("FELT is as it was", x.told(1, 1), 7);
        x.put(1, 1, 0);
        edge.due("one that is FLAT", x.lasts(1, 1), 2);
        int[][] hits = {{98, 99}, {99, -1}, {97, 98}};
        for (int[] d : hits) {
            HatsInRing y = Edge.by("goes 1;hits " + d[0] + ";soft 0;", 0, 0, 9900, 50, 0, 9900);
            edge.due("hit by " + d[0], y.lasts(1, 1), d[1]);
        }
        HatsInRing nobody = Edge.ring(50, 0, 0);
        edge.due("alone", nobody.lasts(0, 40), 1);
        HatsInRing between = Edge.by("goes 1;hits 50;soft 99*(9<felt)*(felt<20);", 0, 0, 9900, 50, 0, 9900);
        edge.due("by 10 .. 19, though not by 20", between.lasts(1, 40), 10);
        edge.due("by 51", Edge.by("goes 1;hits 50;soft 0;", 0, 0, 9900, 50, 0, 100).lasts(1, 1), 51);
    }

    private void lastsRefused() {
        HatsInRing x = hitByOne(1);
        edge.of(19, "-5: none such");
        edge.due("lasts(2, 1)", x.lasts(2, 1), -5);
        edge.due("lasts(-1, 1)", x.lasts(-1, 1), -5);
        for (int far : Edge.FAR_OFF) {
            edge.due("lasts(" + far + ", 1)", x.lasts(far, 1), -5);
        }

        edge.of(19, "-7: n.");
        edge.due("lasts(0, 41)", x.lasts(0, 41), -7);
        edge.due("lasts(0, -1)", x.lasts(0, -1), -7);
        for (int far : Edge.FAR_OFF) {
            edge.due("lasts(0, " + far + ")", x.lasts(0, far), -7);
        }
    }

    private void betting() {
        edge.of(20, "FELT of one, of that of all, together: part 0 above, 1 below the line, in lowest terms.");
        int[][] due = {{1, 1, 1, 2}, {99, 0, 1, 1}, {0, 99, 0, 1}, {1, 99, 1, 100}, {99, 1, 99, 100}, {97, 99, 97, 196}, {98, 98, 1, 2},
            {6, 4, 3, 5}, {4, 6, 2, 5}, {33, 66, 1, 3}, {66, 33, 2, 3}};
        for (int[] d : due) {
            HatsInRing x = Edge.ring(50, 0, 100 * d[0], 50, 0, 100 * d[1]);
            edge.due("betting(0, 0), " + d[0] + " and " + d[1], x.betting(0, 0), d[2]);
            edge.due("betting(0, 1), " + d[0] + " and " + d[1], x.betting(0, 1), d[3]);
        }
        HatsInRing six = Edge.ring(0, 0, 9900, 0, 0, 9900, 0, 0, 9900, 0, 0, 9900, 0, 0, 9900, 0, 0, 9900);
        edge.due("six of 99", six.betting(5, 0), 1);
        edge.due("six of 99", six.betting(5, 1), 6);
        six.put(5, 1, 98);
        edge.due("98 of 593", six.betting(5, 0), 98);
        edge.due("98 of 593", six.betting(5, 1), 593);
    }

    private void bettingRefused() {
        edge.of(20, "NO: none such, that is 0.");
        HatsInRing x = Edge.ring(0, 0, 100, 0, 0, 0);
        edge.due("betting(2, 0)", x.betting(2, 0), NO);
        edge.due("betting(-1, 0)", x.betting(-1, 0), NO);
        edge.due("betting(0, 2)", x.betting(0, 2), NO);
        edge.due("betting(0, -1)", x.betting(0, -1), NO);
        for (int far : Edge.FAR_OFF) {
            edge.due("betting(" + far + ", 0)", x.betting(far, 0), NO);
            edge.due("betting(0, " + far + ")", x.betting(0, far), NO);
        }
        edge.due("1 of 1", x.betting(0, 1), 1);
        x.put(0, 1, 0);
        for (int p = 0; p < 2; p++) {
            for (int part = 0; part < 2; part++) {
                edge.due("betting(" + p + ", " + part + "), that of all is 0", x.betting(p, part), NO);
            }
        }
        edge.due("no HATS", new HatsInRing().betting(0, 0), NO);
    }
}
