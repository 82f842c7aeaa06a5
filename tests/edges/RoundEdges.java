import java.util.List;

/** Promises 11 to 15: rounds. */
final class RoundEdges {
    private final Edge edge;

    RoundEdges(Edge edge) {
        this.edge = edge;
    }

    void test() {
        flat();
        lastRound();
        bell();
        run();
        runTells();
        runBad();
        when();
        whenFewer();
        whenRefused();
        end();
        endFlat();
    }

    /** 0 hits 1, a SCARECROW, by 1 in each ROUND. */
    private static HatsInRing hitByOne(int felt) {
        return Edge.by("goes 1;hits 1;soft 0;", 0, 0, 9900, 50, 0, 100 * felt);
    }

    private void flat() {
        edge.of(11, "A ROUND, truly: which HATS are FLAT by a hit in it (bits).");
        HatsInRing x = Edge.ring(0, 0, 500, 0, 1, 500);
        edge.due("round()", x.round(), 2);
        edge.due("truly", x.told(1, 1) * 100 + x.count(1), 1);
        edge.due("one that is FLAT already", x.round(), 0);
        HatsInRing six = Edge.ring(50, 0, 500, 50, 0, 0, 50, 0, 9900, 50, 0, 9900, 0, 63, 9900, 50, 62, 500);
        edge.due("the last one of six", six.round(), 1 << 5);
        HatsInRing first = Edge.ring(0, 0, 100, 0, 0, 9900);
        first.put(0, 3, 99);
        edge.due("the first one", first.round(), 1);
        HatsInRing both = Edge.ring(0, 0, 500, 0, 1, 9900, 0, 62, 9900, 0, 63, 500);
        edge.due("two", both.round(), 1 | 1 << 3);
        HatsInRing all = Edge.by("goes 1;hits 99;soft 0;", 0, 0, 100, 0, 63, 100, 50, 1, 100, 50, 62, 100, 50, 9, 0);
        edge.due("two others", all.round(), 1 << 2 | 1 << 3);
        edge.due("by no hit", Edge.ring(50, 0, 100, 50, 0, 0).round(), 0);
        edge.due("no HATS", new HatsInRing().round(), 0);
    }

    private void lastRound() {
        edge.of(11, "STATE: ROUND is 999.");
        HatsInRing x = Edge.ring(0, 0, 9900, 0, 0, 9900);
        x.bell(998);
        edge.due("round(), ROUND is 998", x.round(), 0);
        edge.due("count(1)", x.count(1), 999);
        List<Integer> was = Edge.state(x);
        edge.due("round(), ROUND is 999", x.round(), -3);
        edge.due("round(), ROUND is 999", x.round(), -3);
        edge.same("nothing is otherwise", Edge.state(x), was);
        x.bell(998);
        edge.due("round(), ROUND is 998 again", x.round(), 0);
        HatsInRing empty = new HatsInRing();
        empty.bell(999);
        edge.due("round(), no HATS", empty.round(), -3);
    }

    private void bell() {
        edge.of(12, "ROUND becomes v: what it was.");
        HatsInRing x = new HatsInRing();
        edge.due("bell(999)", x.bell(999), 0);
        edge.due("bell(999)", x.bell(999), 999);
        edge.due("bell(0)", x.bell(0), 999);
        edge.due("bell(1)", x.bell(1), 0);
        edge.due("count(1)", x.count(1), 1);

        edge.of(12, "BAD.");
        edge.due("bell(-1)", x.bell(-1), -2);
        edge.due("bell(1000)", x.bell(1000), -2);
        for (int far : Edge.FAR_OFF) {
            edge.due("bell(" + far + ")", x.bell(far), -2);
        }
        edge.due("count(1)", x.count(1), 1);
    }

    private void run() {
        edge.of(13, "n ROUNDS (0 .. 60), in thought");
        HatsInRing x = hitByOne(99);
        List<Integer> was = Edge.state(x);
        for (int n : new int[] {0, 1, 2, 59, 60}) {
            edge.due("run(" + n + ", 21)", x.run(n, 21), 99 - n);
            edge.due("run(" + n + ", 31)", x.run(n, 31), n);
            edge.due("run(" + n + ", 1)", x.run(n, 1), n);
        }
        edge.due("run(-1, 0)", x.run(-1, 0), -2);
        edge.due("run(61, 0)", x.run(61, 0), -2);
        edge.same("in thought", Edge.state(x), was);
        HatsInRing y = hitByOne(60);
        edge.due("run(59, 0)", y.run(59, 0), 3);
        edge.due("run(60, 0)", y.run(60, 0), 1);
    }

    private void runTells() {
        edge.of(13, "which HATS are UP then (what 0; bits), all TALLIES, together (1)");
        HatsInRing six = Edge.ring(0, 9, 9900, 0, 9, 9900, 0, 9, 9900, 0, 9, 9900, 0, 9, 9900, 0, 9, 9900);
        edge.due("run(0, 0)", six.run(0, 0), 63);
        edge.due("run(0, 1)", six.run(0, 1), 0);
        edge.due("run(1, 1)", six.run(1, 1), 6);
        for (int p = 0; p < 6; p++) {
            six.put(p, 1, 0);
        }
        edge.due("run(60, 0), all FLAT", six.run(60, 0), 0);
        edge.due("run(60, 1), all FLAT", six.run(60, 1), 0);
        HatsInRing last = Edge.ring(0, 0, 0, 0, 0, 0, 0, 0, 0, 0, 0, 0, 0, 0, 0, 0, 0, 100);
        edge.due("run(60, 0), the last one", last.run(60, 0), 32);
        HatsInRing most = Edge.by("goes 1;hits 0;soft 0;", 0, 0, 100, 0, 0, 100);
        for (int i = 0; i < 90; i++) {
            most.round();
        }
        edge.due("TALLIES that were there count", most.run(0, 1), 180);
        edge.due("each 99 at most", most.run(60, 1), 198);

        edge.of(13, "the PLACE of the one numbered what less 10 (10 ..), FELT of the one numbered what less 20 (20 ..), "
            + "BLOWS of the one numbered what less 30 (30 ..)");
        HatsInRing x = new HatsInRing();
        for (int p = 0; p < 6; p++) {
            x.hat(50, 63 - p, 100 * p);
            x.put(p, 3, 99 - p);
        }
        for (int p = 0; p < 6; p++) {
            edge.due("run(60, " + (10 + p) + ")", x.run(60, 10 + p), 63 - p);
            edge.due("run(60, " + (20 + p) + ")", x.run(60, 20 + p), p);
            edge.due("run(60, " + (30 + p) + ")", x.run(60, 30 + p), 99 - p);
        }
        HatsInRing steps = Edge.ring(0, 0, 9900, 0, 18, 9900);
        int[][] due = {{0, 0, 18, 99, 99, 0, 0}, {1, 8, 10, 99, 99, 0, 0}, {2, 9, 10, 94, 99, 1, 0}, {3, 9, 10, 89, 94, 2, 1}};
        for (int[] d : due) {
            for (int what = 0; what < 6; what++) {
                int call = 10 * (what / 2 + 1) + what % 2;
                edge.due("run(" + d[0] + ", " + call + ")", steps.run(d[0], call), d[1 + what]);
            }
        }
    }

    private void runBad() {
        edge.of(13, "BAD.");
        HatsInRing six = Edge.ring(0, 0, 0, 0, 0, 0, 0, 0, 0, 0, 0, 0, 0, 0, 0, 0, 0, 0);
        for (int what = -40; what < 60; what++) {
            boolean such = what == 0 || what == 1 || what >= 10 && what < 40 && what % 10 < 6;
            edge.due("run(0, " + what + ")", six.run(0, what) == -2 ? 1 : 0, such ? 0 : 1);
        }
        HatsInRing one = Edge.ring(0, 0, 100);
        for (int what : new int[] {11, 21, 31, 15, 25, 35}) {
            edge.due("run(0, " + what + "), none such", one.run(0, what), -2);
        }
        for (int far : Edge.FAR_OFF) {
            edge.due("run(" + far + ", 0)", one.run(far, 0), -2);
            edge.due("run(0, " + far + ")", one.run(0, far), -2);
        }
        edge.due("run(0, 10), no HATS", new HatsInRing().run(0, 10), -2);
    }

    private void when() {
        edge.of(14, "Behind how many ROUNDS (0 .. 60) HAT what (0 .. 5) is FLAT");
        int[][] due = {{0, 0}, {1, 1}, {2, 2}, {59, 59}, {60, 60}};
        for (int[] d : due) {
            edge.due("when(1), FELT " + d[0], hitByOne(d[0]).when(1), d[1]);
        }
        HatsInRing six = Edge.ring(0, 63, 9900, 50, 0, 100, 50, 0, 100, 50, 0, 100, 50, 0, 100, 50, 62, 500);
        edge.due("when(5)", six.when(5), 1);
        edge.due("in thought", six.told(5, 1), 5);

        edge.of(14, "-1: not by then.");
        edge.due("when(1), FELT 61", hitByOne(61).when(1), -1);
        edge.due("when(6), FELT 61", hitByOne(61).when(6), -1);
        edge.due("when(0)", hitByOne(1).when(0), -1);
    }

    private void whenFewer() {
        edge.of(14, "fewer than two are UP (6) for the first time");
        edge.due("no HATS", new HatsInRing().when(6), 0);
        edge.due("one", Edge.ring(0, 0, 100).when(6), 0);
        edge.due("one is UP", Edge.ring(0, 0, 100, 0, 0, 0).when(6), 0);
        edge.due("none is UP", Edge.ring(0, 0, 0, 0, 0, 0).when(6), 0);
        edge.due("FELT 1", hitByOne(1).when(6), 1);
        edge.due("FELT 60", hitByOne(60).when(6), 60);
        HatsInRing three = Edge.by("goes 1;hits 1;soft 0;", 0, 0, 9900, 50, 0, 300, 50, 0, 400);
        edge.due("one of three is FLAT behind 3", three.when(1), 3);
        edge.due("two of three are FLAT behind 7", three.when(6), 7);
    }

    private void whenRefused() {
        edge.of(14, "-5: what, none such.");
        HatsInRing x = Edge.ring(0, 0, 100, 0, 0, 100);
        int[] refused = {-1, 2, 5, 7, 8};
        for (int what : refused) {
            edge.due("when(" + what + ")", x.when(what), -5);
        }
        for (int far : Edge.FAR_OFF) {
            edge.due("when(" + far + ")", x.when(far), -5);
        }
        edge.due("when(0), no HATS", new HatsInRing().when(0), -5);
        HatsInRing six = Edge.ring(0, 0, 0, 0, 0, 0, 0, 0, 0, 0, 0, 0, 0, 0, 0, 0, 0, 0);
        edge.due("when(5)", six.when(5), 0);
        edge.due("when(7)", six.when(7), -5);
    }

    private void end() {
        edge.of(15, "By 60 ROUNDS, in thought: which HAT has most FELT then, "
            + "of like ones the first (what 0; -1: none is UP), how much (1; 0)");
        int[][] due = {{99, 0, 99}, {98, 0, 99}};
        for (int[] d : due) {
            HatsInRing x = hitByOne(d[0]);
            edge.due("end(0), FELT " + d[0], x.end(0), d[1]);
            edge.due("end(1), FELT " + d[0], x.end(1), d[2]);
            edge.due("in thought", x.told(1, 1) * 1000 + x.count(1), d[0] * 1000);
        }
        HatsInRing sixty = hitByOne(99);
        sixty.put(0, 1, 39);
        edge.due("39 and 99 less 60", sixty.end(0), 0);
        sixty.put(0, 1, 38);
        edge.due("38 and 99 less 60", sixty.end(0), 1);
        edge.due("38 and 99 less 60", sixty.end(1), 39);
        HatsInRing like = Edge.ring(50, 0, 100, 50, 0, 700, 50, 0, 700, 50, 0, 600);
        edge.due("of like ones the first", like.end(0), 1);
        edge.due("how much", like.end(1), 7);
        HatsInRing flat = Edge.ring(0, 0, 0, 0, 0, 0);
        edge.due("none is UP", flat.end(0), -1);
        edge.due("none is UP", flat.end(1), 0);
        flat.put(1, 1, 1);
        edge.due("the last one is UP", flat.end(0), 1);
        edge.due("FELT 1", flat.end(1), 1);
        edge.due("no HATS", new HatsInRing().end(0), -1);
        edge.due("no HATS", new HatsInRing().end(1), 0);
    }

    private void endFlat() {
        edge.of(15, "which is FLAT by a hit first, of those of one ROUND the first by numbers (2; -1: none), "
            + "in which ROUND from now on, from 0 on (3; -1)");
        int[][] due = {{1, 1, 0}, {2, 1, 1}, {60, 1, 59}, {61, -1, -1}, {0, -1, -1}};
        for (int[] d : due) {
            HatsInRing x = hitByOne(d[0]);
            x.bell(500);
            edge.due("end(2), FELT " + d[0], x.end(2), d[1]);
            edge.due("end(3), FELT " + d[0], x.end(3), d[2]);
        }
        HatsInRing two = Edge.ring(0, 0, 500, 0, 63, 9900, 50, 62, 500, 0, 1, 9900);
        edge.due("2 is laid FLAT, then 0", two.run(1, 0), 10);
        edge.due("the first by numbers", two.end(2), 0);
        edge.due("in ROUND 0", two.end(3), 0);
        HatsInRing flat = Edge.ring(50, 5, 0, 0, 0, 9900, 50, 0, 1000, 50, 0, 1000);
        edge.due("one that is FLAT already isn't by a hit", flat.end(2), 2);
        edge.due("the first one of all", flat.end(3), 1);
        edge.due("no HATS", new HatsInRing().end(2), -1);
        edge.due("no HATS", new HatsInRing().end(3), -1);

        edge.of(15, "BAD.");
        HatsInRing x = hitByOne(1);
        edge.due("end(-1)", x.end(-1), -2);
        edge.due("end(4)", x.end(4), -2);
        for (int far : Edge.FAR_OFF) {
            edge.due("end(" + far + ")", x.end(far), -2);
        }
    }
}
