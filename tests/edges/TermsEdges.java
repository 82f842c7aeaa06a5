/** "Terms", PLACES to BLOW. */
final class TermsEdges {
    private final Edge edge;

    TermsEdges(Edge edge) {
        this.edge = edge;
    }

    void test() {
        places();
        rounds();
        roundsInThought();
        hats();
        felt();
        pride();
        blows();
        tallies();
        hat();
        silk();
        brown();
        top();
        cap();
        scarecrow();
        above();
        hitsAtLeast();
        blow();
    }

    private void places() {
        edge.of("PLACES", "PLACES 0 .. 63");
        HatsInRing x = new HatsInRing();
        edge.due("hat(0, -1, 100)", x.hat(0, -1, 100), -2);
        edge.due("hat(0, 64, 100)", x.hat(0, 64, 100), -2);
        edge.due("hat(0, 0, 100)", x.hat(0, 0, 100), 0);
        edge.due("hat(0, 63, 100)", x.hat(0, 63, 100), 1);
        edge.due("told(0, 0)", x.told(0, 0), 0);
        edge.due("told(1, 0)", x.told(1, 0), 63);
        edge.due("put(0, 0, 64)", x.put(0, 0, 64), -7);
        edge.due("put(0, 0, -1)", x.put(0, 0, -1), -7);
        edge.due("put(0, 0, 63)", x.put(0, 0, 63), 0);
        edge.due("put(0, 0, 0)", x.put(0, 0, 0), 63);

        edge.of("PLACES", "PLACE modulo 8 is the COLUMN, PLACE by 8 (cut) the ROW");
        far(x, new int[][] {{0, 7, 7}, {0, 8, 1}, {7, 8, 8}, {7, 15, 1}, {55, 56, 8}, {56, 63, 7}, {7, 56, 14}, {0, 63, 14}});

        edge.of("PLACES", "two are as FAR from each other as their COLUMNS and their ROWS differ, together");
        far(x, new int[][] {{0, 0, 0}, {63, 63, 0}, {0, 1, 1}, {0, 9, 2}, {7, 14, 2}, {62, 55, 2}, {27, 44, 3}});
    }

    private void far(HatsInRing x, int[][] due) {
        for (int[] d : due) {
            x.put(0, 0, d[0]);
            x.put(1, 0, d[1]);
            edge.due(d[0] + " and " + d[1], x.duel(0, 1, 2), d[2]);
            edge.due(d[1] + " and " + d[0], x.duel(1, 0, 2), d[2]);
        }
    }

    private void rounds() {
        edge.of("ROUND", "ROUND (0 .. 999");
        HatsInRing x = new HatsInRing();
        edge.due("bell(-1)", x.bell(-1), -2);
        edge.due("bell(1000)", x.bell(1000), -2);
        edge.due("bell(999)", x.bell(999), 0);
        edge.due("round()", x.round(), -3);
        edge.due("count(1)", x.count(1), 999);
        edge.due("bell(0)", x.bell(0), 999);
        edge.due("round()", x.round(), 0);
        edge.due("count(1)", x.count(1), 1);

        edge.of("ROUND", "0 at first");
        edge.due("count(1)", new HatsInRing().count(1), 0);
        edge.due("bell(5)", new HatsInRing().bell(5), 0);
    }

    /** In ROUND 998 a HAT hits 3, in 999 4, in 1000 5, in 1001 6. */
    private void roundsInThought() {
        edge.of("ROUND", "in thought it may pass 999");
        HatsInRing x = Edge.by("goes 1;hits round-995;soft 0;", 0, 0, 9900, 50, 0, 9900);
        x.bell(998);
        int[] felt = {99, 96, 92, 87, 81};
        for (int n = 0; n < felt.length; n++) {
            edge.due("run(" + n + ", 21)", x.run(n, 21), felt[n]);
        }
        x.bell(999);
        edge.due("run(1, 21)", x.run(1, 21), 95);
        edge.due("run(2, 21)", x.run(2, 21), 90);
        edge.due("run(60, 21)", x.run(60, 21), 0);
        edge.due("when(1)", x.when(1), 11);
        edge.due("end(3)", x.end(3), 10);
        edge.due("beaten(0, 0)", x.beaten(0, 0), 2);
        edge.due("toss(1, 2, 1)", x.toss(1, 2, 1), 99);
        edge.due("rid(1, 2, 0)", x.rid(1, 2, 0), 0);
        edge.due("lasts(1, 2)", x.lasts(1, 2), 10);
        edge.due("drawn(0, 1)", x.drawn(0, 1) > 0 ? 1 : 0, 1);
        edge.due("odds(0, 1, 1, 0)", x.odds(0, 1, 1, 0), x.drawn(0, 0) >> 1 & 1);
        Check.sheet(x, 0, 95, 90);
        edge.due("judge(0, 1)", x.judge(0, 1), -1);
        edge.due("kinds(0, 1, 0, 0)", x.kinds(0, 1, 0, 0), 1 | 2 | 4);
        edge.due("states(0, 1, 1, 1)", x.states(0, 1, 1, 1), 99);
        edge.due("places(0, 1)", x.places(0, 1), 1 | 1L << 1 | 1L << 8);
        edge.due("whose(0)", x.whose(0), 2);
        edge.due("laws(0, 1)", x.laws(0, 1), 2);
        edge.due("film(1, 1, 2)", x.film(1, 1, 2), 2);
        edge.due("judge(1, 1)", x.judge(1, 1), -1);
        edge.due("count(1)", x.count(1), 999);
    }

    private void hats() {
        edge.of("HATS", "HATS are numbered from 0 on, 6 at most");
        HatsInRing x = new HatsInRing();
        for (int p = 0; p < 6; p++) {
            edge.due("told(" + p + ", 0)", x.told(p, 0), -5);
            edge.due("hat(0, 0, 0)", x.hat(0, 0, 0), p);
            edge.due("told(" + p + ", 0)", x.told(p, 0), 0);
        }
        edge.due("hat(0, 0, 0)", x.hat(0, 0, 0), -4);
        edge.due("told(6, 0)", x.told(6, 0), -5);
        edge.due("told(-1, 0)", x.told(-1, 0), -5);
        edge.due("count(0)", x.count(0), 6);

        edge.of("HATS", "of a KIND, with MORE (0 .. 9)");
        HatsInRing y = Edge.ring(0, 0, 0, 9, 0, 0, 10, 0, 0, 50, 0, 0, 59, 0, 0);
        int[][] due = {{0, 0}, {0, 9}, {1, 0}, {5, 0}, {5, 9}};
        for (int p = 0; p < due.length; p++) {
            edge.due("told(" + p + ", 4)", y.told(p, 4), due[p][0]);
            edge.due("told(" + p + ", 5)", y.told(p, 5), due[p][1]);
        }
        edge.due("hat(60, 0, 0)", y.hat(60, 0, 0), -2);
        edge.due("hat(-1, 0, 0)", y.hat(-1, 0, 0), -2);
        Check.sheet(y, 0);
        edge.due("kinds(0, 0, 0, 0)", y.kinds(0, 0, 0, 0), (1 << 6) - 1);
        edge.due("kinds(0, 0, 0, 1)", y.kinds(0, 0, 0, 1), (1 << 10) - 1);

        edge.of("HATS", "AT a PLACE (more than one may be AT one)");
        HatsInRing six = Edge.ring(0, 9, 900, 0, 9, 900, 0, 9, 900, 0, 9, 900, 0, 9, 900, 0, 63, 900);
        edge.due("put(5, 0, 9)", six.put(5, 0, 9), 63);
        for (int p = 0; p < 6; p++) {
            edge.due("told(" + p + ", 0)", six.told(p, 0), 9);
        }
        edge.due("duel(0, 5, 2)", six.duel(0, 5, 2), 0);
        HatsInRing into = Edge.ring(50, 24, 900, 50, 16, 0, 0, 8, 900);
        edge.due("round()", into.round(), 0);
        edge.due("one STEPS to where another one is", into.told(2, 0), 16);
    }

    private void felt() {
        edge.of("FELT", "FELT (0 .. 99; 0: FLAT, else UP)");
        HatsInRing x = Edge.ring(0, 0, 0, 0, 0, 100, 0, 0, 9900);
        edge.due("told(0, 1)", x.told(0, 1), 0);
        edge.due("told(1, 1)", x.told(1, 1), 1);
        edge.due("told(2, 1)", x.told(2, 1), 99);
        edge.due("run(0, 0)", x.run(0, 0), 6);
        edge.due("put(0, 1, 100)", x.put(0, 1, 100), -7);
        edge.due("put(0, 1, -1)", x.put(0, 1, -1), -7);
        edge.due("put(0, 1, 99)", x.put(0, 1, 99), 0);
        edge.due("put(2, 1, 0)", x.put(2, 1, 0), 99);
        edge.due("run(0, 0)", x.run(0, 0), 3);
        edge.due("put(0, 1, 1)", x.put(0, 1, 1), 99);
        edge.due("count(2)", x.count(2), 2);
        edge.due("hat(0, 0, 10000)", x.hat(0, 0, 10000), -2);
    }

    private void pride() {
        edge.of("PRIDE", "PRIDE (0 .. 99)");
        HatsInRing x = Edge.ring(0, 0, 100, 0, 0, 199);
        edge.due("told(0, 2)", x.told(0, 2), 0);
        edge.due("told(1, 2)", x.told(1, 2), 99);
        edge.due("put(0, 2, 99)", x.put(0, 2, 99), 0);
        edge.due("put(0, 2, 100)", x.put(0, 2, 100), -7);
        edge.due("put(0, 2, -1)", x.put(0, 2, -1), -7);
        edge.due("put(0, 2, 0)", x.put(0, 2, 0), 99);
    }

    private void blows() {
        edge.of("BLOWS", "BLOWS: how often it was hit (0 .. 99; 0 as it comes)");
        HatsInRing x = Edge.ring(0, 0, 9999, 0, 0, 9999);
        edge.due("told(0, 3)", x.told(0, 3), 0);
        edge.due("put(0, 3, 99)", x.put(0, 3, 99), 0);
        edge.due("put(0, 3, 100)", x.put(0, 3, 100), -7);
        edge.due("put(0, 3, -1)", x.put(0, 3, -1), -7);
        x.round();
        edge.due("told(0, 3)", x.told(0, 3), 99);
        edge.due("told(1, 3)", x.told(1, 3), 1);
        edge.due("put(0, 3, 0)", x.put(0, 3, 0), 99);
        HatsInRing again = new HatsInRing();
        again.image();
        again.hat(0, 0, 9900);
        again.put(0, 3, 99);
        again.back();
        again.hat(0, 0, 9900);
        edge.due("told(0, 3) of one that comes where another one was", again.told(0, 3), 0);
        again.sheet(0, 0, 3);
        again.hatsBy(0, 0, 0, 1);
        edge.due("told(1, 3) of one by a SHEET", again.told(1, 3), 0);
    }

    private void tallies() {
        edge.of("TALLY", "TALLY of two: how often the one has hit the other (0 .. 99; 0 as one comes)");
        HatsInRing x = Edge.by("goes felt<50;hits 0;soft 0;", 0, 0, 100, 0, 0, 9900);
        edge.due("duel(0, 1, 3)", x.duel(0, 1, 3), 0);
        x.round();
        x.round();
        edge.due("duel(0, 1, 3)", x.duel(0, 1, 3), 2);
        edge.due("duel(1, 0, 3)", x.duel(1, 0, 3), 0);
        for (int i = 0; i < 100; i++) {
            x.round();
        }
        edge.due("duel(0, 1, 3)", x.duel(0, 1, 3), 99);
        edge.due("duel(1, 0, 3)", x.duel(1, 0, 3), 0);
        HatsInRing again = Edge.ring(0, 0, 9900);
        again.image();
        again.hat(0, 0, 9900);
        again.round();
        edge.due("duel(1, 0, 3)", again.duel(1, 0, 3), 1);
        again.back();
        again.hat(0, 0, 9900);
        edge.due("duel(0, 1, 3) of one that comes where another one was", again.duel(0, 1, 3), 0);
        edge.due("duel(1, 0, 3) of one that comes where another one was", again.duel(1, 0, 3), 0);
    }

    /** 0 is of the KIND asked for, with MORE; 1 is of KIND 0. */
    private void says(int kindMore, String text, int goes, int hits, int soft) {
        HatsInRing x = Edge.by(text, kindMore, 0, 100, 0, 0, 100);
        x.bell(2);
        edge.due("told(0, 6), by " + kindMore + ", " + text, x.told(0, 6), goes);
        edge.due("duel(0, 1, 0), by " + kindMore + ", " + text, x.duel(0, 1, 0), hits);
        edge.due("told(0, 8), by " + kindMore + ", " + text, x.told(0, 8), 1000 + soft);
    }

    private void hat() {
        edge.of("KINDS", "0 HAT: if so; that; that.");
        says(0, "goes 0;hits 0;soft -99;", 0, 0, -99);
        says(9, "goes 1;hits 99;soft 99;", 1, 99, 99);
    }

    private void silk() {
        edge.of("KINDS", "1 SILK (a HAT): HITS MORE more; SOFT MORE less.");
        says(10, "goes 1;hits 0;soft 0;", 1, 0, 0);
        says(19, "goes 0;hits 0;soft 0;", 0, 9, -9);
        says(10, "goes 1;hits 99;soft -99;", 1, 99, -99);
        says(19, "goes 1;hits 99;soft -99;", 1, 108, -108);
    }

    private void brown() {
        edge.of("KINDS", "2 BROWN (a HAT): HITS twice one that is of KIND 1 itself");
        int[] due = {99, 198, 99, 99, 99, 99};
        for (int kind = 0; kind < 6; kind++) {
            edge.due("one of KIND " + kind, Edge.by("goes 1;hits 99;soft 0;", 29, 0, 100, 10 * kind + 9, 0, 100).duel(0, 1, 0), due[kind]);
        }
        edge.due("twice 0", Edge.by("goes 1;hits 0;soft 0;", 20, 0, 100, 10, 0, 100).duel(0, 1, 0), 0);
        edge.due("twice 1", Edge.by("goes 1;hits 1;soft 0;", 20, 0, 100, 10, 0, 0).duel(0, 1, 0), 2);

        edge.of("KINDS", "GOES, if so, and always, if ROUND and MORE are alike, both modulo 3");
        alike(20);
    }

    private void alike(int kind) {
        for (int more = 0; more < 10; more++) {
            HatsInRing never = Edge.by("goes 0;hits 1;soft 0;", kind + more, 0, 100);
            HatsInRing so = Edge.by("goes 1;hits 1;soft 0;", kind + more, 0, 100);
            for (int round : new int[] {0, 1, 2, 3, 9, 997, 998, 999}) {
                never.bell(round);
                so.bell(round);
                edge.due("not so, MORE " + more + ", ROUND " + round, never.told(0, 6), round % 3 == more % 3 ? 1 : 0);
                edge.due("so, MORE " + more + ", ROUND " + round, so.told(0, 6), 1);
            }
        }
    }

    private void top() {
        edge.of("KINDS", "3 TOP (a SILK): GOES as a SILK, but never, if ROUND is below MORE");
        int[][] goes = {{0, 0, 1}, {1, 0, 0}, {1, 1, 1}, {9, 0, 0}, {9, 8, 0}, {9, 9, 1}, {9, 10, 1}, {0, 999, 1}};
        for (int[] d : goes) {
            HatsInRing x = Edge.by("goes 1;hits 1;soft 0;", 30 + d[0], 0, 100);
            x.bell(d[1]);
            edge.due("so, MORE " + d[0] + ", ROUND " + d[1], x.told(0, 6), d[2]);
            HatsInRing y = Edge.by("goes 0;hits 1;soft 0;", 30 + d[0], 0, 100);
            y.bell(d[1]);
            edge.due("not so, MORE " + d[0] + ", ROUND " + d[1], y.told(0, 6), 0);
        }

        edge.of("KINDS", "HITS as a SILK, if ROUND is even, else 1");
        int[][] hits = {{0, 0, 0, 0}, {0, 0, 1, 1}, {99, 9, 0, 108}, {99, 9, 1, 1}, {99, 9, 998, 108},
            {99, 9, 999, 1}, {5, 3, 2, 8}, {5, 3, 3, 1}};
        for (int[] d : hits) {
            HatsInRing x = Edge.by("goes 1;hits " + d[0] + ";soft 0;", 30 + d[1], 0, 100, 0, 0, 100, 10, 0, 100);
            x.bell(d[2]);
            edge.due("hits " + d[0] + ", MORE " + d[1] + ", ROUND " + d[2], x.duel(0, 1, 0), d[3]);
            edge.due("hits " + d[0] + ", MORE " + d[1] + ", ROUND " + d[2] + ", a SILK", x.duel(0, 2, 0), d[3]);
        }
        HatsInRing late = Edge.by("goes 1;hits 9;soft 0;", 38, 0, 9900, 50, 0, 9900);
        late.bell(999);
        int[] felt = {99, 98, 81, 80, 63};
        for (int n = 0; n < felt.length; n++) {
            edge.due("in thought, " + n + " ROUNDS from 999 on", late.run(n, 21), felt[n]);
        }
    }

    private void cap() {
        edge.of("KINDS", "4 CAP (a BROWN): SOFT MORE more");
        for (int more = 0; more < 10; more += 9) {
            edge.due("soft 99, MORE " + more, Edge.by("goes 1;hits 1;soft 99;", 40 + more, 0, 0).told(0, 8), 1099 + more);
            edge.due("soft -99, MORE " + more, Edge.by("goes 1;hits 1;soft -99;", 40 + more, 0, 0).told(0, 8), 901 + more);
        }

        edge.of("KINDS", "HITS 0 one of KIND 5, else 1 more than a BROWN");
        int[] most = {100, 199, 100, 100, 100, 0};
        int[] least = {1, 1, 1, 1, 1, 0};
        for (int kind = 0; kind < 6; kind++) {
            HatsInRing hard = Edge.by("goes 1;hits 99;soft 0;", 49, 0, 100, 10 * kind + 9, 0, 100);
            edge.due("99, one of KIND " + kind, hard.duel(0, 1, 0), most[kind]);
            HatsInRing light = Edge.by("goes 1;hits 0;soft 0;", 49, 0, 100, 10 * kind + 9, 0, 100);
            edge.due("0, one of KIND " + kind, light.duel(0, 1, 0), least[kind]);
        }
    }

    private void scarecrow() {
        edge.of("KINDS", "5 SCARECROW (a HAT): GOES never; SOFT three times what the text says, and MORE.");
        for (int more = 0; more < 10; more += 9) {
            HatsInRing x = Edge.by("goes 1;hits 1;soft 99;", 50 + more, 0, 100);
            edge.due("soft 99, MORE " + more, x.told(0, 8), 1297 + more);
            for (int round : new int[] {0, 1, 2, 8, 9, 999}) {
                x.bell(round);
                edge.due("GOES, MORE " + more + ", ROUND " + round, x.told(0, 6), 0);
            }
            edge.due("soft -99, MORE " + more, Edge.by("goes 1;hits 1;soft -99;", 50 + more, 0, 0).told(0, 8), 703 + more);
            edge.due("soft 0, MORE " + more, Edge.by("goes 1;hits 1;soft 0;", 50 + more, 0, 0).told(0, 8), 1000 + more);
            edge.due("soft 9999, MORE " + more, Edge.by("goes 1;hits 1;soft 9999;", 50 + more, 0, 0).told(0, 8), 1297 + more);
        }
    }

    private void above() {
        edge.of("KINDS", "Whatever isn't told is as of the KIND above.");
        for (int more = 0; more < 10; more += 9) {
            edge.due("a TOP is as SOFT as a SILK", Edge.by("goes 1;hits 1;soft -99;", 30 + more, 0, 0).told(0, 8), 901 - more);
            edge.due("a BROWN is as SOFT as a HAT", Edge.by("goes 1;hits 1;soft -99;", 20 + more, 0, 0).told(0, 8), 901);
            edge.due("a SCARECROW HITS as a HAT", Edge.by("goes 1;hits 99;soft 1;", 50 + more, 0, 1, 10, 0, 1).duel(0, 1, 0), 99);
            edge.due("a SILK GOES as a HAT", Edge.by("goes 0;hits 99;soft 1;", 10 + more, 0, 100).told(0, 6), 0);
            edge.due("a SILK GOES as a HAT", Edge.by("goes 1;hits 99;soft 1;", 10 + more, 0, 100).told(0, 6), 1);
        }
        alike(40);
    }

    private void hitsAtLeast() {
        edge.of("KINDS", "HITS 0 at least.");
        int[] due = {0, 9, 0, 9, 1, 0};
        for (int kind = 0; kind < 6; kind++) {
            HatsInRing x = Edge.by("goes 1;hits 0-9999*9999;soft 0;", 10 * kind + 9, 0, 100, 10, 0, 100, 50, 0, 100);
            edge.due("KIND " + kind, x.duel(0, 1, 0), due[kind]);
            edge.due("KIND " + kind + ", a SCARECROW", x.duel(0, 2, 0), kind == 4 ? 0 : due[kind]);
        }
        edge.due("by TEXT 0, a SCARECROW", Edge.ring(40, 0, 100, 50, 0, 100).duel(0, 1, 0), 0);
    }

    private void blow() {
        edge.of("BLOW", "A BLOW: how hard the one HITS the other, less how SOFT that one is (0 .. 99, else the bound).");
        int[][] due = {{5, 0, 5}, {5, 4, 1}, {5, 5, 0}, {5, 6, 0}, {0, 99, 0}, {99, 0, 99}, {99, -1, 99}, {98, -1, 99}, {98, -2, 99},
            {97, -1, 98}, {99, -99, 99}, {0, -99, 99}, {0, -98, 98}};
        for (int[] d : due) {
            HatsInRing x = Edge.by("goes 1;hits " + d[0] + ";soft " + d[1] + ";", 0, 0, 9900, 0, 0, 9900);
            edge.due("hits " + d[0] + ", soft " + d[1], x.duel(0, 1, 1), d[2]);
            edge.due("FELT is less by it", x.run(1, 21), 99 - d[2]);
        }
        blowsOfKinds();
        HatsInRing one = Edge.by("goes 1;hits 9;soft more;", 1, 0, 9900, 3, 0, 9900);
        edge.due("less how SOFT that one is, not this one", one.duel(0, 1, 1), 6);
        edge.due("less how SOFT that one is, not this one", one.duel(1, 0, 1), 8);
        edge.due("198 less 99", Edge.by("goes 1;hits 99;soft 99;", 20, 0, 100, 10, 0, 100).duel(0, 1, 1), 99);
        edge.due("198 less 99 less 9 more", Edge.by("goes 1;hits 99;soft 99;", 20, 0, 100, 19, 0, 100).duel(0, 1, 1), 99);
        edge.due("100 less 108", Edge.by("goes 1;hits 99;soft 99;", 40, 0, 100, 49, 0, 100).duel(0, 1, 1), 0);
    }

    /** By TEXT 0, in ROUND 6, which 0, of KIND and MORE 3, spends hitting 1, of KIND and MORE 4. */
    private void blowsOfKinds() {
        int[][] due = {
            {5, 9, 5, 9, 1, 1}, {8, 12, 8, 12, 4, 4}, {5, 14, 5, 9, 1, 1},
            {8, 12, 8, 12, 4, 4}, {6, 15, 6, 10, 2, 0}, {0, 0, 0, 0, 0, 0},
        };
        for (int kind = 0; kind < 6; kind++) {
            for (int other = 0; other < 6; other++) {
                HatsInRing x = Edge.ring(10 * kind + 3, 0, 9900, 10 * other + 4, 0, 9900);
                x.bell(6);
                edge.due("KIND " + kind + " hits " + other, 99 - x.run(1, 21), due[kind][other]);
                edge.due("BLOWS", x.run(1, 31), kind == 5 ? 0 : 1);
                edge.due("the BLOW", kind == 5 ? 0 : x.duel(0, 1, 1), due[kind][other]);
            }
        }
    }
}
