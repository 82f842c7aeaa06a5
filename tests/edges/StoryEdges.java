import java.util.List;

/** Promises 21 to 27: told rounds. */
final class StoryEdges {
    private static final long NO = HatsInRing.NO;
    private static final String[] SHEET_REFUSALS = {"BAD: SHEET", "-11", "BAD: it tells more than 20", "-5: none such."};
    private final Edge edge;

    StoryEdges(Edge edge) {
        this.edge = edge;
    }

    void test() {
        judge();
        judgeRefused();
        kinds();
        kindsRefused();
        states();
        statesRefused();
        places();
        placesRefused();
        whose();
        laws();
        film();
        filmRefused();
    }

    /** 0 hits 1, a SCARECROW, by 1 in each ROUND. */
    private static HatsInRing hitByOne(int felt) {
        return Edge.by("goes 1;hits 1;soft 0;", 0, 0, 9900, 50, 0, 100 * felt);
    }

    private static int[] story(int first, int size) {
        int[] story = new int[size];
        for (int i = 0; i < size; i++) {
            story[i] = Math.max(0, first - i);
        }
        return story;
    }

    private void judge() {
        edge.of(21, "A SHEET tells FELT of one behind 1, 2, .. ROUNDS (20 at most): "
            + "the first number (from 0) that is otherwise; -1: none.");
        HatsInRing x = hitByOne(99);
        List<Integer> was = Edge.state(x);
        for (int size : new int[] {0, 1, 2, 19, 20}) {
            Check.sheet(x, 0, story(98, size));
            edge.due("judge(0, 1), " + size + " as it is", x.judge(0, 1), -1);
            for (int i : new int[] {0, size / 2, size - 1}) {
                if (i >= 0 && i < size) {
                    Check.sheet(x, 1, story(98, size));
                    x.cell(1, i, 98 - i + 1);
                    edge.due("judge(1, 1), " + size + ", but for number " + i, x.judge(1, 1), i);
                    x.cell(1, i, 98 - i - 1);
                    edge.due("judge(1, 1), " + size + ", but for number " + i, x.judge(1, 1), i);
                }
            }
        }
        edge.same("in thought", Edge.state(x), was);
        HatsInRing low = hitByOne(2);
        Check.sheet(low, 0, 1, 0, 0, 0);
        edge.due("0 at least", low.judge(0, 1), -1);
        Check.sheet(low, 0, 1, 0, -1);
        edge.due("a number below 0", low.judge(0, 1), 2);
        Check.sheet(low, 0, 1, 7, 0, 7);
        edge.due("the first one of two", low.judge(0, 1), 1);
        Check.sheet(low, 0, 256 + 1);
        edge.due("257 of ints", low.judge(0, 1), 0);
        low.sheet(0, 0, 1);
        low.cell(0, 0, 256 + 1);
        edge.due("257 of bytes", low.judge(0, 1), -1);
        low.sheet(0, 1, 1);
        low.cell(0, 0, 65536 + 1);
        edge.due("65537 of shorts", low.judge(0, 1), -1);
    }

    private void judgeRefused() {
        HatsInRing x = hitByOne(99);
        edge.of(21, SHEET_REFUSALS[0]);
        for (int s : new int[] {-1, 4, Edge.LEAST, Edge.MOST}) {
            edge.due("judge(" + s + ", 1)", x.judge(s, 1), -2);
        }
        edge.of(21, SHEET_REFUSALS[1]);
        for (int s = 0; s < 4; s++) {
            edge.due("judge(" + s + ", 1), missing at first", x.judge(s, 1), -11);
        }
        Check.sheet(x, 3);
        edge.due("judge(3, 1), empty", x.judge(3, 1), -1);
        x.sheet(3, -1, 0);
        edge.due("judge(3, 1), missing again", x.judge(3, 1), -11);

        edge.of(21, SHEET_REFUSALS[2]);
        for (int size : new int[] {19, 20, 21, 40}) {
            Check.sheet(x, 0, story(98, size));
            edge.due("judge(0, 1), " + size, x.judge(0, 1), size > 20 ? -2 : -1);
        }
        x.cell(0, 0, 0);
        edge.due("judge(0, 1), 40, otherwise", x.judge(0, 1), -2);

        edge.of(21, SHEET_REFUSALS[3]);
        Check.sheet(x, 0);
        edge.due("judge(0, 2)", x.judge(0, 2), -5);
        edge.due("judge(0, -1)", x.judge(0, -1), -5);
        for (int far : Edge.FAR_OFF) {
            edge.due("judge(0, " + far + ")", x.judge(0, far), -5);
        }
        edge.due("judge(0, 0), no HATS", noHats().judge(0, 0), -5);
    }

    private static HatsInRing noHats() {
        HatsInRing x = new HatsInRing();
        Check.sheet(x, 0);
        return x;
    }

    private void kinds() {
        edge.of(22, "KINDS (sort 0; bits 0 .. 5), MORE (1; bits 0 .. 9) of a HAT (of) by which, were they its, that would be -1.");
        HatsInRing x = Edge.ring(59, 0, 9900, 59, 0, 9900);
        x.bell(10);
        List<Integer> was = Edge.state(x);
        Check.sheet(x, 0);
        for (int p = 0; p < 2; p++) {
            for (int of = 0; of < 2; of++) {
                edge.due("kinds(0, " + p + ", " + of + ", 0), told nothing", x.kinds(0, p, of, 0), 63);
                edge.due("kinds(0, " + p + ", " + of + ", 1), told nothing", x.kinds(0, p, of, 1), 1023);
            }
        }
        Check.sheet(x, 0, 99);
        edge.due("KINDS of 1 by which 0 isn't hit by more than its SOFT 9", x.kinds(0, 0, 1, 0), 1 | 4 | 16 | 32);
        edge.due("MORE of a SCARECROW", x.kinds(0, 0, 1, 1), 1023);
        Check.sheet(x, 0, 94);
        edge.due("5 and 9 less 9: SILK, TOP", x.kinds(0, 0, 1, 0), 2 | 8);
        Check.sheet(x, 0, 95);
        edge.due("none", x.kinds(0, 0, 1, 0), 0);
        edge.due("none", x.kinds(0, 0, 1, 1), 0);
        Check.sheet(x, 0, 98);
        edge.due("none", x.kinds(0, 0, 0, 0), 0);
        edge.same("they are as they were", Edge.state(x), was);
        HatsInRing more = Edge.ring(50, 0, 9900, 19, 0, 9900);
        int[][] due = {{94, 1}, {85, 1 << 9}, {89, 1 << 5}, {95, 0}, {84, 0}};
        for (int[] d : due) {
            Check.sheet(more, 0, d[0]);
            edge.due("MORE of a SILK by which FELT is " + d[0], more.kinds(0, 0, 1, 1), d[1]);
        }
        Check.sheet(more, 0, 94, 89);
        edge.due("MORE 0 of a SILK, two ROUNDS", more.kinds(0, 0, 1, 1), 1);
        edge.due("KINDS that hit by 5 in ROUNDS 0 and 1", more.kinds(0, 0, 1, 0), 1 | 4);
    }

    private void kindsRefused() {
        HatsInRing x = hitByOne(99);
        edge.of(22, "BAD, -11, BAD, -5 likewise");
        int[][] due = {{-1, 0, -2}, {4, 0, -2}, {2, 0, -11}, {1, 0, -2}, {0, 2, -5}, {0, -1, -5}};
        Check.sheet(x, 0);
        Check.sheet(x, 1, new int[21]);
        for (int[] d : due) {
            for (int sort = 0; sort < 2; sort++) {
                edge.due("kinds(" + d[0] + ", " + d[1] + ", 0, " + sort + ")", x.kinds(d[0], d[1], 0, sort), d[2]);
            }
        }
        Check.sheet(x, 1, new int[20]);
        edge.due("kinds(1, 0, 0, 0), 20", x.kinds(1, 0, 0, 0), 0);
        edge.due("kinds(0, 0, 0, 0), no HATS", noHats().kinds(0, 0, 0, 0), -5);

        edge.of(22, "-6: of");
        edge.due("kinds(0, 0, 2, 0)", x.kinds(0, 0, 2, 0), -6);
        edge.due("kinds(0, 0, -1, 0)", x.kinds(0, 0, -1, 0), -6);
        edge.due("kinds(0, 0, 6, 0)", x.kinds(0, 0, 6, 0), -6);
        for (int far : Edge.FAR_OFF) {
            edge.due("kinds(0, 0, " + far + ", 0)", x.kinds(0, 0, far, 0), -6);
        }

        edge.of(22, "-7: sort.");
        edge.due("kinds(0, 0, 0, 2)", x.kinds(0, 0, 0, 2), -7);
        edge.due("kinds(0, 0, 0, -1)", x.kinds(0, 0, 0, -1), -7);
        for (int far : Edge.FAR_OFF) {
            edge.due("kinds(0, 0, 0, " + far + ")", x.kinds(0, 0, 0, far), -7);
        }
    }

    private void states() {
        edge.of(23, "FELT (sort 1), PRIDE (2; 0 .. 99 each) of one by which, were it so now, that would be -1: "
            + "how many (what 0), the least (1; -1: none).");
        HatsInRing x = hitByOne(50);
        List<Integer> was = Edge.state(x);
        int[][] due = {{98, 1, 99}, {97, 1, 98}, {1, 1, 2}, {0, 2, 0}, {99, 0, -1}, {-1, 0, -1}, {100, 0, -1}};
        for (int[] d : due) {
            Check.sheet(x, 0, d[0]);
            edge.due("states(0, 1, 1, 0), " + d[0], x.states(0, 1, 1, 0), d[1]);
            edge.due("states(0, 1, 1, 1), " + d[0], x.states(0, 1, 1, 1), d[2]);
        }
        Check.sheet(x, 0);
        for (int sort = 1; sort <= 2; sort++) {
            edge.due("states(0, 1, " + sort + ", 0), told nothing", x.states(0, 1, sort, 0), 100);
            edge.due("states(0, 1, " + sort + ", 1), told nothing", x.states(0, 1, sort, 1), 0);
        }
        Check.sheet(x, 0, 50);
        edge.due("PRIDE: none", x.states(0, 1, 2, 0), 0);
        edge.due("PRIDE: none", x.states(0, 1, 2, 1), -1);
        edge.same("it is as it was", Edge.state(x), was);
        HatsInRing pride = Edge.by("goes 1;hits 99;soft (98<pride)*33;", 0, 0, 9900, 50, 0, 9900);
        Check.sheet(pride, 0, 99);
        edge.due("just PRIDE 99", pride.states(0, 1, 2, 0), 1);
        edge.due("just PRIDE 99", pride.states(0, 1, 2, 1), 99);
        Check.sheet(pride, 0, 0);
        edge.due("PRIDE 0 .. 98", pride.states(0, 1, 2, 0), 99);
        edge.due("PRIDE 0 .. 98", pride.states(0, 1, 2, 1), 0);
    }

    private void statesRefused() {
        HatsInRing x = hitByOne(99);
        edge.of(23, "BAD, -11, BAD, -5 likewise");
        int[][] due = {{-1, 0, -2}, {4, 0, -2}, {2, 0, -11}, {1, 0, -2}, {0, 2, -5}, {0, -1, -5}};
        Check.sheet(x, 0);
        Check.sheet(x, 1, new int[21]);
        for (int[] d : due) {
            for (int sort = 1; sort <= 2; sort++) {
                edge.due("states(" + d[0] + ", " + d[1] + ", " + sort + ", 0)", x.states(d[0], d[1], sort, 0), d[2]);
                edge.due("states(" + d[0] + ", " + d[1] + ", " + sort + ", 1)", x.states(d[0], d[1], sort, 1), d[2]);
            }
        }
        Check.sheet(x, 1, new int[20]);
        edge.due("states(1, 0, 1, 0), 20", x.states(1, 0, 1, 0), 1);

        edge.of(23, "-7: sort, what.");
        for (int far : new int[] {Edge.LEAST, -1, 0, 3, Edge.MOST}) {
            edge.due("states(0, 0, " + far + ", 0)", x.states(0, 0, far, 0), -7);
        }
        for (int far : new int[] {Edge.LEAST, -1, 2, Edge.MOST}) {
            edge.due("states(0, 0, 1, " + far + ")", x.states(0, 0, 1, far), -7);
            edge.due("states(0, 0, 2, " + far + ")", x.states(0, 0, 2, far), -7);
        }
    }

    private void places() {
        edge.of(24, "PLACES (bit c for PLACE c) by which, were one AT it now, that would be -1");
        HatsInRing x = Edge.by("goes 1;hits 1;soft 0;", 0, 0, 9900, 50, 9, 9900);
        List<Integer> was = Edge.state(x);
        Check.sheet(x, 0);
        edge.due("told nothing", x.places(0, 1), -1L);
        Check.sheet(x, 0, 98);
        edge.due("beside 0", x.places(0, 1), 1 | 1 << 1 | 1 << 8);
        x.put(0, 0, 63);
        edge.due("beside 63", x.places(0, 1), 1L << 63 | 1L << 62 | 1L << 55);
        Check.sheet(x, 0, 97);
        edge.due("none", x.places(0, 1), 0);
        x.put(0, 0, 0);
        edge.same("it is where it was", Edge.state(x), was);

        edge.of(24, "(of just 62 and 63 that is the number NO, too)");
        HatsInRing no = Edge.ring(50, 0, 9900, 19, 63, 9900, 10, 47, 9900);
        Check.sheet(no, 0, 85);
        edge.due("just 62 and 63", no.places(0, 0), NO);
        edge.due("just 62 and 63", no.places(0, 0), 1L << 62 | 1L << 63);
    }

    private void placesRefused() {
        HatsInRing x = hitByOne(99);
        edge.of(24, "NO: all that judge() refuses.");
        int[][] due = {{-1, 0}, {4, 0}, {2, 0}, {1, 0}, {0, 2}, {0, -1}, {Edge.MOST, 0}, {Edge.LEAST, 0}, {0, Edge.MOST}, {0, Edge.LEAST}};
        Check.sheet(x, 0);
        Check.sheet(x, 1, new int[21]);
        for (int[] d : due) {
            edge.due("judge(" + d[0] + ", " + d[1] + ")", x.judge(d[0], d[1]) < -1 ? 1 : 0, 1);
            edge.due("places(" + d[0] + ", " + d[1] + ")", x.places(d[0], d[1]), NO);
        }
        Check.sheet(x, 1, new int[20]);
        edge.due("places(1, 0), 20", x.places(1, 0), 0);
    }

    private void whose() {
        edge.of(25, "HATS (bits) of which that is -1.");
        HatsInRing x = hitByOne(99);
        Check.sheet(x, 0, 98, 97);
        edge.due("of 1", x.whose(0), 2);
        Check.sheet(x, 0, 99, 99);
        edge.due("of 0", x.whose(0), 1);
        Check.sheet(x, 0, 99, 98);
        edge.due("of none", x.whose(0), 0);
        Check.sheet(x, 0);
        edge.due("of both", x.whose(0), 3);
        edge.due("no HATS", noHats().whose(0), 0);
        HatsInRing six = Edge.ring(50, 0, 100, 50, 0, 200, 50, 0, 100, 50, 0, 200, 50, 0, 100, 50, 0, 100);
        Check.sheet(six, 0, story(1, 1));
        edge.due("of four", six.whose(0), 1 | 4 | 16 | 32);
        int[] twenty = new int[20];
        java.util.Arrays.fill(twenty, 2);
        Check.sheet(six, 0, twenty);
        edge.due("20 ROUNDS", six.whose(0), 2 | 8);

        edge.of(25, "BAD, -11, BAD likewise.");
        for (int s : new int[] {-1, 4, Edge.LEAST, Edge.MOST}) {
            edge.due("whose(" + s + ")", x.whose(s), -2);
        }
        edge.due("whose(1), missing", x.whose(1), -11);
        Check.sheet(x, 1, new int[21]);
        edge.due("whose(1), 21", x.whose(1), -2);
        Check.sheet(x, 1, new int[20]);
        edge.due("whose(1), 20", x.whose(1), 0);
        HatsInRing none = new HatsInRing();
        edge.due("whose(0), missing, no HATS", none.whose(0), -11);
    }

    private void laws() {
        edge.of(26, "TEXTS (bits), were they THE LAW, by which that would be -1.");
        HatsInRing x = Edge.ring(0, 0, 9900, 50, 0, 9900);
        for (int t = 1; t < 6; t++) {
            edge.due("TEXT " + t, Check.text(x, "goes 1;hits " + t + ";soft 0;"), t);
            Check.sheet(x, 0, 99 - t);
            edge.due("by TEXT " + t + ", the last one", x.laws(0, 1), t == 5 ? 1 | 1 << 5 : 1 << t);
        }
        Check.sheet(x, 0);
        edge.due("told nothing", x.laws(0, 1), 63);
        Check.sheet(x, 0, 99);
        edge.due("none", x.laws(0, 1), 0);
        edge.due("of 0: all", x.laws(0, 0), 63);
        edge.due("THE LAW is as it was", x.count(4), 0);
        HatsInRing one = hitByOne(99);
        one.force(0);
        Check.sheet(one, 0, 98);
        edge.due("TEXT 1", one.laws(0, 1), 2);
        Check.sheet(one, 0);
        edge.due("two TEXTS, told nothing", one.laws(0, 1), 3);

        edge.of(26, "BAD, -11, BAD, -5 likewise.");
        int[][] due = {{-1, 0, -2}, {4, 0, -2}, {2, 0, -11}, {1, 0, -2}, {0, 2, -5}, {0, -1, -5}};
        Check.sheet(x, 1, new int[21]);
        for (int[] d : due) {
            edge.due("laws(" + d[0] + ", " + d[1] + ")", x.laws(d[0], d[1]), d[2]);
        }
        Check.sheet(x, 1, new int[20]);
        edge.due("laws(1, 0), 20", x.laws(1, 0), 0);
        for (int far : Edge.FAR_OFF) {
            edge.due("laws(" + far + ", 0)", x.laws(far, 0), -2);
            edge.due("laws(0, " + far + ")", x.laws(0, far), -5);
        }
    }

    private void film() {
        edge.of(27, "A SHEET truly becomes FELT of one behind 1, .., n ROUNDS (0 .. 20; bytes): n.");
        HatsInRing x = hitByOne(99);
        List<Integer> was = Edge.state(x);
        for (int n : new int[] {0, 1, 2, 19, 20}) {
            edge.due("film(0, 1, " + n + ")", x.film(0, 1, n), n);
            edge.due("it has " + n, x.cell(0, n, 0), -12);
            if (n > 0) {
                edge.due("it has " + n, x.cell(0, n - 1, 99 - n), 1);
            }
            edge.due("judge(0, 1)", x.judge(0, 1), -1);
            for (int i = 0; i < n; i++) {
                x.sheet(1, 0, 1);
                x.copy(0, i, 1, 0, 1);
                edge.due("number " + i + " of " + n, x.states(1, 1, 1, 1), 99 - i);
            }
            x.sheet(1, 0, 20);
            edge.due("of bytes", x.copy(0, 0, 1, 0, n), n);
            x.sheet(1, 1, 20);
            edge.due("of bytes", x.copy(0, 0, 1, 0, n), -13);
        }
        edge.same("but for the SHEET nothing is otherwise", Edge.state(x), was);
        Check.sheet(x, 2, new int[40]);
        edge.due("onto one of 40 ints", x.film(2, 0, 3), 3);
        edge.due("it has 3", x.cell(2, 3, 0), -12);
        edge.due("whose(2)", x.whose(2), 1);
        for (int sort = 1; sort < 3; sort++) {
            x.sheet(2, sort, 20);
            x.film(2, 0, 3);
            x.sheet(1, 0, 3);
            edge.due("onto one of sort " + sort + ": of bytes", x.copy(2, 0, 1, 0, 3), 3);
            edge.due("they are there", x.whose(1), 1);
        }
        edge.due("onto one that is missing", x.film(3, 0, 20), 20);
        edge.due("whose(3)", x.whose(3), 1);
    }

    private void filmRefused() {
        HatsInRing x = hitByOne(99);
        edge.of(27, "BAD: SHEET");
        for (int s : new int[] {-1, 4, Edge.LEAST, Edge.MOST}) {
            edge.due("film(" + s + ", 0, 1)", x.film(s, 0, 1), -2);
        }
        edge.of(27, "-5: none such");
        for (int p : new int[] {-1, 2, 6, Edge.LEAST, Edge.MOST}) {
            edge.due("film(0, " + p + ", 1)", x.film(0, p, 1), -5);
        }
        edge.of(27, "-7: n.");
        for (int n : new int[] {-1, 21, 40, Edge.LEAST, Edge.MOST}) {
            edge.due("film(0, 0, " + n + ")", x.film(0, 0, n), -7);
        }
        edge.due("still missing", x.whose(0), -11);
    }
}
