import java.util.List;

/** "Terms", REFUSALS. */
final class RefusalEdges {
    private static final long NO = HatsInRing.NO;
    private final Edge edge;

    RefusalEdges(Edge edge) {
        this.edge = edge;
    }

    void test() {
        numbers();
        firstTold();
        firstToldOfRounds();
        firstToldOfSheets();
        behind();
        changeNothing();
        fullChangesNothing();
        asked();
    }

    private void numbers() {
        edge.of("REFUSALS", "NONE there is no such thing; BAD a number is not as told; STATE as told; FULL.");
        edge.due("NONE", HatsInRing.NONE, -1);
        edge.due("BAD", HatsInRing.BAD, -2);
        edge.due("STATE", HatsInRing.STATE, -3);
        edge.due("FULL", HatsInRing.FULL, -4);
        edge.due("NO", HatsInRing.NO, -4611686018427387904L);

        edge.of("REFUSALS", "The host's: -11 nothing there, -12 a place outside, -13 of another sort or KIND, -14 a size below 0.");
        HatsInRing x = Edge.ring(0, 0, 100);
        edge.due("cell(0, 0, 0)", x.cell(0, 0, 0), -11);
        edge.due("taken(1, 0)", x.taken(1, 0), -11);
        x.sheet(0, 0, 1);
        edge.due("cell(0, 1, 0)", x.cell(0, 1, 0), -12);
        edge.due("taken(12, 0)", x.taken(12, 0), -12);
        edge.due("hatsBy(0, 1, 0, 1)", x.hatsBy(0, 1, 0, 1), -13);
        edge.due("taken(0, 1)", x.taken(0, 1), -13);
        edge.due("sheet(0, 0, -1)", x.sheet(0, 0, -1), -14);
    }

    /** Calls with more than one number that is refused. */
    private void firstTold() {
        edge.of("REFUSALS", "REFUSALS, of several the first one told");
        HatsInRing x = Edge.ring(0, 0, 100, 0, 1, 100, 0, 2, 100, 0, 3, 100, 0, 4, 100, 0, 5, 0);
        for (int i = 0; i < 32; i++) {
            x.feed(5, ' ', ' ', ' ', ' ', ' ');
        }
        edge.due("feed: BAD, FULL", x.feed(6, ' ', ' ', ' ', ' ', ' '), -2);
        edge.due("feed: BAD, FULL", x.feed(1, ' ', ' ', ' ', ' ', 256), -2);
        edge.due("feed: FULL", x.feed(1, ' ', ' ', ' ', ' ', ' '), -4);
        edge.due("hat: BAD, FULL", x.hat(60, 0, 0), -2);
        edge.due("hat: BAD, FULL", x.hat(0, 64, 0), -2);
        edge.due("hat: BAD, FULL", x.hat(0, 0, 10000), -2);
        edge.due("hat: FULL", x.hat(0, 0, 0), -4);
        edge.due("asks: both", x.asks(3, 6), -1000);
        HatsInRing texts = new HatsInRing();
        for (int t = 1; t < 6; t++) {
            Check.text(texts, "goes 1;hits 5;soft 0;");
        }
        edge.due("text: FULL, a FAULT", Check.text(texts, "?"), -4);
        for (int p : new int[] {-1, 6, Edge.LEAST, Edge.MOST}) {
            edge.due("put: -5, -7", x.put(p, 4, 0), -5);
            edge.due("put: -5, -7", x.put(p, 0, 64), -5);
            edge.due("told: -5, -7", x.told(p, 9), -5);
            edge.due("duel: -5, -7", x.duel(p, 0, 4), -5);
            edge.due("duel: -5, -7", x.duel(0, p, 4), -5);
        }
        edge.due("duel: one and the same, -7", x.duel(0, 0, 4), -5);
        edge.due("put: what, v", x.put(0, 4, 100), -7);
    }

    private void firstToldOfRounds() {
        HatsInRing x = Edge.ring(0, 0, 100, 0, 1, 100);
        edge.due("run: both", x.run(61, 2), -2);
        for (int p : new int[] {-1, 2, Edge.LEAST, Edge.MOST}) {
            edge.due("beaten: -5, -7", x.beaten(p, 2), -5);
            edge.due("toss: -5, -7", x.toss(p, 41, 0), -5);
            edge.due("toss: -5, -7", x.toss(p, 0, 2), -5);
            edge.due("rid: -5, -7", x.rid(p, 41, 0), -5);
            edge.due("rid: -5, -7", x.rid(p, 0, 2), -5);
            edge.due("lasts: -5, -7", x.lasts(p, 41), -5);
            edge.due("betting: both", x.betting(p, 2), NO);
            edge.due("odds: all", x.odds(-1, 0, p, 2), NO);
        }
        edge.due("toss: n, what", x.toss(0, 41, 2), -7);
        edge.due("rid: n, what", x.rid(0, 41, 2), -7);
        edge.due("drawn: both", x.drawn(-1, 2), -2);
    }

    private void firstToldOfSheets() {
        HatsInRing x = Edge.ring(0, 0, 100, 0, 1, 100);
        Check.sheet(x, 0, 1);
        Check.sheet(x, 1, new int[21]);
        int[][] refused = {{4, 9, -2}, {-1, 9, -2}, {2, 9, -11}, {1, 9, -2}, {0, 9, -5}};
        for (int[] d : refused) {
            String of = "(" + d[0] + ", " + d[1] + ")";
            edge.due("judge" + of, x.judge(d[0], d[1]), d[2]);
            edge.due("kinds" + of, x.kinds(d[0], d[1], 9, 9), d[2]);
            edge.due("states" + of, x.states(d[0], d[1], 9, 9), d[2]);
            edge.due("places" + of, x.places(d[0], d[1]), NO);
            edge.due("laws" + of, x.laws(d[0], d[1]), d[2]);
        }
        edge.due("kinds: -6, -7", x.kinds(0, 0, 2, 2), -6);
        edge.due("states: sort, what", x.states(0, 0, 0, 2), -7);
        edge.due("film: BAD, -5, -7", x.film(4, 9, 21), -2);
        edge.due("film: -5, -7", x.film(0, 9, 21), -5);
        edge.due("sheet: BAD, -14", x.sheet(4, 0, -1), -2);
        edge.due("sheet: BAD, -14", x.sheet(0, 3, -1), -2);
        edge.due("cell: BAD, -12", x.cell(4, -1, 0), -2);
        edge.due("cell: -11, -12", x.cell(2, -1, 0), -11);
        x.sheet(3, 0, 1);
        edge.due("copy: BAD, -11, -12", x.copy(2, -1, 4, -1, -1), -2);
        edge.due("copy: BAD, -11, -12", x.copy(-1, -1, 2, -1, -1), -2);
        edge.due("copy: -11, -13, -12", x.copy(2, -1, 3, -1, -1), -11);
        edge.due("copy: -11, -13, -12", x.copy(3, -1, 2, -1, -1), -11);
        edge.due("copy: -13, -12", x.copy(0, -1, 3, -1, -1), -13);
        edge.due("hatsBy: BAD, -11", x.hatsBy(2, 3, -1, 1), -2);
        edge.due("hatsBy: BAD, -11", x.hatsBy(2, 0, -1, 7), -2);
        edge.due("hatsBy: BAD, -13", x.hatsBy(0, 0, -1, 7), -2);
        edge.due("hatsBy: -11, -13, -12", x.hatsBy(2, 0, -1, 1), -11);
        edge.due("hatsBy: -13, -12", x.hatsBy(0, 0, -1, 1), -13);
        edge.due("taken: BAD, -12", x.taken(12, 7), -2);
        edge.due("taken: BAD, -11", x.taken(5, 7), -2);
        edge.due("taken: -11, -13", x.taken(5, 6), -11);
    }

    private void behind() {
        edge.of("REFUSALS", "(a -1 that is an answer comes behind the refusal of a number)");
        HatsInRing x = Edge.by("goes 1;hits 99;soft 0;", 0, 0, 100);
        edge.due("told(0, 7)", x.told(0, 7), -1);
        edge.due("told(1, 7)", x.told(1, 7), -5);
        edge.due("when(0)", x.when(0), -1);
        edge.due("when(1)", x.when(1), -5);
        edge.due("when(7)", x.when(7), -5);
        edge.due("end(2)", x.end(2), -1);
        edge.due("end(3)", x.end(3), -1);
        edge.due("end(4)", x.end(4), -2);
        edge.due("rid(0, 40, 0)", x.rid(0, 40, 0), -1);
        edge.due("rid(0, 41, 0)", x.rid(0, 41, 0), -7);
        edge.due("rid(1, 40, 0)", x.rid(1, 40, 0), -5);
        x.hat(0, 0, 100);
        edge.due("lasts(1, 40)", x.lasts(1, 40), -1);
        edge.due("lasts(1, 41)", x.lasts(1, 41), -7);
        edge.due("lasts(2, 40)", x.lasts(2, 40), -5);
        x.put(0, 1, 0);
        x.put(1, 1, 0);
        edge.due("end(0)", x.end(0), -1);
        edge.due("end(-1)", x.end(-1), -2);
        Check.sheet(x, 0);
        Check.sheet(x, 1, 100);
        edge.due("judge(0, 0)", x.judge(0, 0), -1);
        edge.due("judge(0, 2)", x.judge(0, 2), -5);
        edge.due("states(1, 0, 1, 1)", x.states(1, 0, 1, 1), -1);
        edge.due("states(1, 0, 3, 1)", x.states(1, 0, 3, 1), -7);
        edge.due("states(1, 2, 1, 1)", x.states(1, 2, 1, 1), -5);
    }

    /** An image of an empty ring in ROUND 3, SHEETS 0 and 1, a text on THE TAPE, two TEXTS, three HATS. */
    private static HatsInRing busy() {
        HatsInRing x = new HatsInRing();
        x.bell(3);
        x.image();
        Check.sheet(x, 0, 47, 63, 9998, 3, 5, 1234);
        x.sheet(1, 0, 3);
        x.cell(1, 0, 12);
        Check.text(x, "goes 1;hits 7;soft 0;");
        x.force(1);
        x.hat(5, 0, 9901);
        x.hat(14, 1, 9002);
        x.hat(28, 63, 0);
        x.round();
        x.feed(5, 'g', 'o', 'e', 's', '1');
        x.feed(5, ';', 'h', 'i', 't', 's');
        return x;
    }

    private void asBefore(String what, HatsInRing x, List<Integer> was) {
        edge.same(what + ": the ring", Edge.state(x), was);
        x.feed(5, '8', ';', 's', 'o', 'f');
        x.feed(3, 't', '1', ';', 0, 0);
        edge.due(what + ": THE TAPE", x.text(), 2);
        edge.due(what + ": SHEET 2", x.cell(2, 0, 0), -11);
        edge.due(what + ": back()", x.back(), 0);
        edge.due(what + ": ROUND of THE IMAGE", x.count(1), 3);
        edge.due(what + ": THE LAW of THE IMAGE", x.count(4), 0);
        edge.due(what + ": SHEET 0", x.hatsBy(0, 2, 0, 2), 2);
        edge.due(what + ": SHEET 1", x.hatsBy(1, 0, 0, 1), 1);
        int[][] due = {{4, 7, 63, 99, 98}, {0, 3, 5, 12, 34}, {1, 2, 0, 0, 0}};
        int[] told = {4, 5, 0, 1, 2};
        for (int p = 0; p < 3; p++) {
            for (int i = 0; i < 5; i++) {
                edge.due(what + ": told(" + p + ", " + told[i] + ")", x.told(p, told[i]), due[p][i]);
            }
        }
        edge.due(what + ": SHEET 0 has six", x.cell(0, 6, 0), -12);
        edge.due(what + ": SHEET 1 has three", x.cell(1, 3, 0), -12);
    }

    private void changeNothing() {
        edge.of("REFUSALS", "They change nothing, but where it is told.");
        HatsInRing x = busy();
        List<Integer> was = Edge.state(x);
        long[] refused = {x.count(-1), x.count(6), x.feed(0, 1, 1, 1, 1, 1), x.feed(6, 1, 1, 1, 1, 1), x.feed(5, 1, 1, 1, 1, 256),
            x.feed(1, 'x', 1, 1, 1, -1), x.force(-1), x.force(2), x.asks(3, 0), x.asks(0, 3), x.hat(60, 0, 0), x.hat(-1, 0, 0),
            x.hat(0, 64, 0), x.hat(0, -1, 0), x.hat(0, 0, -1), x.hat(0, 0, 10000), x.put(3, 0, 0), x.put(-1, 0, 0), x.put(0, 4, 0),
            x.put(0, -1, 0), x.put(0, 0, 64), x.put(0, 1, 100), x.put(0, 2, -1), x.put(0, 3, 100), x.told(3, 0), x.told(0, 9),
            x.duel(0, 0, 0), x.duel(0, 3, 0), x.duel(0, 1, 4), x.bell(-1), x.bell(1000), x.run(61, 0), x.run(1, 2), x.when(3),
            x.when(7), x.end(4), x.beaten(3, 0), x.beaten(0, 2), x.toss(3, 1, 0), x.toss(0, 41, 0), x.toss(0, 1, 2), x.rid(3, 1, 0),
            x.rid(0, 41, 0), x.rid(0, 1, 2), x.lasts(3, 1), x.lasts(0, 41), x.betting(3, 0), x.betting(0, 2)};
        long[] told = {x.judge(4, 0), x.judge(2, 0), x.judge(0, 3), x.kinds(2, 0, 0, 0), x.kinds(0, 0, 3, 0), x.kinds(0, 0, 0, 2),
            x.states(2, 0, 1, 0), x.states(0, 0, 3, 0), x.places(2, 0), x.places(0, 3), x.whose(4), x.whose(2), x.laws(2, 0),
            x.laws(0, 3), x.film(4, 0, 1), x.film(0, 3, 1), x.film(0, 0, 21), x.film(0, 0, -1), x.film(2, 0, 21), x.drawn(-1, 0),
            x.drawn(0, 2), x.odds(-1, 1, 0, 0), x.odds(0, 41, 0, 0), x.odds(0, 1, 3, 0), x.sheet(0, 3, 1), x.sheet(0, 0, 41),
            x.sheet(0, 0, -1), x.sheet(2, 0, -1), x.sheet(4, 0, 1), x.cell(4, 0, 9), x.cell(2, 0, 9), x.cell(0, 6, 9),
            x.cell(0, -1, 9), x.copy(0, 0, 1, 0, 1), x.copy(0, 0, 2, 0, 1), x.copy(0, 0, 0, 4, 3), x.copy(0, 4, 0, 0, 3),
            x.copy(0, 0, 0, 1, -1), x.copy(0, 0, 4, 0, 1), x.hatsBy(0, 2, 4, 1), x.hatsBy(0, 2, 0, 7), x.hatsBy(0, 1, 0, 1),
            x.hatsBy(2, 2, 0, 1), x.hatsBy(4, 2, 0, 1), x.taken(12, 0), x.taken(0, 7), x.taken(3, 0), x.taken(0, 1)};
        for (int i = 0; i < refused.length; i++) {
            edge.due("the call " + i + " is refused", refused[i] < 0 ? 1 : 0, 1);
        }
        for (int i = 0; i < told.length; i++) {
            edge.due("of told rounds, lots, the host, the call " + i + " is refused", told[i] < 0 ? 1 : 0, 1);
        }
        asBefore("refused", x, was);
        HatsInRing none = Edge.ring(0, 0, 9900);
        was = Edge.state(none);
        edge.due("back()", none.back(), -3);
        edge.same("back()", Edge.state(none), was);
        none.bell(999);
        was = Edge.state(none);
        edge.due("round()", none.round(), -3);
        edge.same("round()", Edge.state(none), was);
    }

    private void fullChangesNothing() {
        HatsInRing x = Edge.ring(0, 0, 100, 0, 1, 200, 0, 2, 300, 0, 3, 400, 0, 4, 500, 0, 5, 600);
        for (int t = 1; t < 6; t++) {
            Check.text(x, "goes 1;hits 5;soft " + t + ";");
        }
        for (int i = 0; i < 31; i++) {
            x.feed(5, ' ', ' ', ' ', ' ', ' ');
        }
        x.feed(1, ' ', ' ', ' ', ' ', ' ');
        List<Integer> was = Edge.state(x);
        edge.due("hat(0, 0, 0)", x.hat(0, 0, 0), -4);
        edge.due("text()", x.text(), -4);
        edge.due("feed(5, ..)", x.feed(5, ' ', ' ', ' ', ' ', ' '), -4);
        edge.same("FULL", Edge.state(x), was);
    }

    private void asked() {
        edge.of("REFUSALS", "What is asked changes nothing, but where it is told.");
        HatsInRing x = busy();
        List<Integer> was = Edge.state(x);
        for (int what = 0; what < 9; what++) {
            x.count(what);
            x.told(0, what);
            x.duel(0, 1, what);
            x.asks(what, 0);
            x.end(what);
            x.when(what);
            x.run(60, what);
            x.taken(what, what % 7);
        }
        for (int what = 0; what < 2; what++) {
            x.run(20, 10 + what);
            x.run(20, 20 + what);
            x.run(20, 30 + what);
            x.beaten(what, what);
            x.toss(0, 40, what);
            x.rid(0, 40, what);
            x.betting(0, what);
            x.drawn(77, what);
            x.odds(77, 40, 0, what);
            x.lasts(what, 40);
            x.judge(what, 0);
            x.kinds(what, 0, 1, what);
            x.states(what, 0, 1 + what, what);
            x.places(what, 0);
            x.whose(what);
            x.laws(what, 0);
        }
        asBefore("asked", x, was);
    }
}
