/** Promises 32 to 36: the host. */
final class HostEdges {
    private final Edge edge;

    HostEdges(Edge edge) {
        this.edge = edge;
    }

    void test() {
        sheet();
        sheetMissing();
        sheetRefused();
        cell();
        cellRefused();
        copy();
        copyOwn();
        copyRefused();
        copyOutside();
        hatsBy();
        hatsByOutside();
        hatsByRefused();
        taken();
        takenRefused();
    }

    /** A SCARECROW that nobody hits, so that states() tells what stands in a SHEET. */
    private static HatsInRing still() {
        return Edge.ring(50, 0, 900);
    }

    private void is(HatsInRing x, int s, int sort, int... numbers) {
        for (int i = 0; i < numbers.length; i++) {
            edge.due("SHEET " + s + ", number " + i, Edge.number(x, s, sort, i), numbers[i]);
        }
        edge.due("SHEET " + s + " has " + numbers.length, x.cell(s, numbers.length, 0), -12);
    }

    private void sheet() {
        edge.of(32, "A SHEET becomes a row of n of a sort, all 0");
        for (int sort = 0; sort < 3; sort++) {
            HatsInRing x = still();
            edge.due("sheet(0, " + sort + ", 0)", x.sheet(0, sort, 0), 1);
            edge.due("none", x.cell(0, 0, 1), -12);
            edge.due("sheet(0, " + sort + ", 40)", x.sheet(0, sort, 40), 1);
            for (int i = 0; i < 40; i++) {
                edge.due("cell(0, " + i + ", 7)", x.cell(0, i, 7), 1);
            }
            edge.due("40 are there", x.cell(0, 40, 7), -12);
            edge.due("sheet(0, " + sort + ", 3)", x.sheet(0, sort, 3), 1);
            is(x, 0, sort, 0, 0, 0);
            edge.due("sheet(0, " + sort + ", 40)", x.sheet(0, sort, 40), 1);
            int[] none = new int[40];
            is(x, 0, sort, none);
            for (int other = 0; other < 3; other++) {
                x.sheet(1, other, 1);
                edge.due("sort " + sort + " and " + other, x.copy(0, 0, 1, 0, 1), other == sort ? 1 : -13);
            }
        }
    }

    private void sheetMissing() {
        edge.of(32, "or missing (sort -1: n does not matter): 1.");
        HatsInRing x = new HatsInRing();
        for (int n : new int[] {0, 5, 40, 41, -1, Edge.LEAST, Edge.MOST}) {
            x.sheet(2, 2, 5);
            edge.due("cell(2, 0, 1)", x.cell(2, 0, 1), 1);
            edge.due("sheet(2, -1, " + n + ")", x.sheet(2, -1, n), 1);
            edge.due("cell(2, 0, 1)", x.cell(2, 0, 1), -11);
            edge.due("one that is missing", x.sheet(2, -1, n), 1);
        }
    }

    private void sheetRefused() {
        edge.of(32, "BAD: SHEET, sort, n above 40");
        HatsInRing x = new HatsInRing();
        for (int s : new int[] {-1, 4, Edge.LEAST, Edge.MOST}) {
            edge.due("sheet(" + s + ", 0, 1)", x.sheet(s, 0, 1), -2);
            edge.due("sheet(" + s + ", -1, 1)", x.sheet(s, -1, 1), -2);
        }
        for (int sort : new int[] {-2, 3, Edge.LEAST, Edge.MOST}) {
            edge.due("sheet(0, " + sort + ", 1)", x.sheet(0, sort, 1), -2);
        }
        for (int sort = 0; sort < 3; sort++) {
            edge.due("sheet(0, " + sort + ", 40)", x.sheet(0, sort, 40), 1);
            edge.due("sheet(0, " + sort + ", 41)", x.sheet(0, sort, 41), -2);
            edge.due("sheet(0, " + sort + ", most)", x.sheet(0, sort, Edge.MOST), -2);
        }

        edge.of(32, "-14.");
        for (int sort = 0; sort < 3; sort++) {
            edge.due("sheet(0, " + sort + ", 0)", x.sheet(0, sort, 0), 1);
            edge.due("sheet(0, " + sort + ", -1)", x.sheet(0, sort, -1), -14);
            edge.due("sheet(0, " + sort + ", least)", x.sheet(0, sort, Edge.LEAST), -14);
            edge.due("sheet(3, " + sort + ", -1)", x.sheet(3, sort, -1), -14);
        }
        edge.due("still missing", x.cell(3, 0, 0), -11);
    }

    private void cell() {
        edge.of(33, "Number i of a SHEET becomes v (of bytes, shorts its lowest 8, 16 bits): 1.");
        HatsInRing x = still();
        int[][] due = {{0, 0, 0}, {0, 99, 99}, {0, 256, 0}, {0, 256 + 99, 99}, {0, -256 + 99, 99}, {0, -157, 99}, {0, 65536 + 5, 5},
            {0, 128, -1}, {0, -1, -1}, {0, 255, -1}, {1, 99, 99}, {1, 256, -1}, {1, 65536, 0}, {1, 65536 + 99, 99}, {1, 7 - 65536, 7},
            {1, 32768, -1}, {1, -1, -1}, {2, 99, 99}, {2, 256, -1}, {2, 65536, -1}, {2, 65536 + 5, -1}, {2, Edge.LEAST, -1},
            {0, Edge.LEAST, 0}, {1, Edge.LEAST, 0}, {0, Edge.LEAST + 9, 9}};
        for (int[] d : due) {
            x.sheet(0, d[0], 3);
            edge.due("cell(0, 1, " + d[1] + ")", x.cell(0, 1, d[1]), 1);
            edge.due(d[1] + " of sort " + d[0], Edge.number(x, 0, d[0], 1), d[2]);
        }
        x.sheet(0, 2, 40);
        edge.due("the first one", x.cell(0, 0, 1), 1);
        edge.due("the last one", x.cell(0, 39, 2), 1);
        edge.due("the first one", Edge.number(x, 0, 2, 0), 1);
        edge.due("the one behind it", Edge.number(x, 0, 2, 1), 0);
        edge.due("the one ahead of the last one", Edge.number(x, 0, 2, 38), 0);
        edge.due("the last one", Edge.number(x, 0, 2, 39), 2);
        int[][] hats = {{0, 128}, {0, 255}, {1, 32768}, {1, 65535}};
        for (int[] h : hats) {
            HatsInRing y = new HatsInRing();
            y.sheet(0, h[0], 3);
            y.cell(0, 2, h[1]);
            edge.due(h[1] + " of sort " + h[0] + " is below 0", y.hatsBy(0, h[0], 0, 1), 0);
            y.cell(0, 2, h[1] / 2);
            edge.due(h[1] / 2 + " of sort " + h[0], y.hatsBy(0, h[0], 0, 1), h[0] == 0 ? 1 : 0);
        }
    }

    private void cellRefused() {
        HatsInRing x = new HatsInRing();
        x.sheet(0, 2, 3);
        x.sheet(1, 2, 0);
        edge.of(33, "BAD: SHEET");
        for (int s : new int[] {-1, 4, Edge.LEAST, Edge.MOST}) {
            edge.due("cell(" + s + ", 0, 1)", x.cell(s, 0, 1), -2);
        }
        edge.of(33, "-11");
        edge.due("cell(2, 0, 1)", x.cell(2, 0, 1), -11);
        edge.due("cell(3, 0, 1)", x.cell(3, 0, 1), -11);

        edge.of(33, "-12.");
        for (int i : new int[] {-1, 3, 39, 40, Edge.LEAST, Edge.MOST}) {
            edge.due("cell(0, " + i + ", 1)", x.cell(0, i, 1), -12);
        }
        edge.due("cell(1, 0, 1), of none", x.cell(1, 0, 1), -12);
        edge.due("cell(0, 2, 1)", x.cell(0, 2, 1), 1);
    }

    private void copy() {
        edge.of(34, "n numbers of a SHEET, from i on, come to another one's (or its own) place j (as they were): n.");
        int[][] due = {{0, 0, 4, 1, 2, 3, 4, 0, 0}, {0, 0, 0, 0, 0, 0, 0, 0, 0}, {3, 5, 1, 0, 0, 0, 0, 0, 4}, {0, 2, 4, 0, 0, 1, 2, 3, 4},
            {4, 6, 0, 0, 0, 0, 0, 0, 0}, {1, 0, 3, 2, 3, 4, 0, 0, 0}, {4, 0, 0, 0, 0, 0, 0, 0, 0}, {0, 6, 0, 0, 0, 0, 0, 0, 0}};
        for (int sort = 0; sort < 3; sort++) {
            HatsInRing x = still();
            for (int[] d : due) {
                x.sheet(0, sort, 4);
                for (int i = 0; i < 4; i++) {
                    x.cell(0, i, i + 1);
                }
                x.sheet(1, sort, 6);
                edge.due("copy(0, " + d[0] + ", 1, " + d[1] + ", " + d[2] + ")", x.copy(0, d[0], 1, d[1], d[2]), d[2]);
                is(x, 1, sort, d[3], d[4], d[5], d[6], d[7], d[8]);
            }
            is(x, 0, sort, 1, 2, 3, 4);
        }
        HatsInRing whole = new HatsInRing();
        whole.sheet(0, 2, 40);
        whole.sheet(1, 2, 40);
        edge.due("all 40", whole.copy(0, 0, 1, 0, 40), 40);
        edge.due("the last one", whole.copy(0, 39, 1, 39, 1), 1);
        edge.due("none of one of none", whole.sheet(2, 2, 0) - 1 + whole.copy(2, 0, 2, 0, 0), 0);
    }

    /** Onto its own place: as they were, be it higher or lower. */
    private void copyOwn() {
        int[][] due = {{0, 1, 4, 1, 1, 2, 3, 4}, {1, 0, 4, 2, 3, 4, 5, 5}, {0, 0, 5, 1, 2, 3, 4, 5}, {0, 2, 3, 1, 2, 1, 2, 3},
            {2, 0, 3, 3, 4, 5, 4, 5}, {0, 4, 1, 1, 2, 3, 4, 1}, {4, 0, 1, 5, 2, 3, 4, 5}, {5, 5, 0, 1, 2, 3, 4, 5}};
        for (int[] d : due) {
            HatsInRing x = still();
            Check.sheet(x, 0, 1, 2, 3, 4, 5);
            edge.due("copy(0, " + d[0] + ", 0, " + d[1] + ", " + d[2] + ")", x.copy(0, d[0], 0, d[1], d[2]), d[2]);
            is(x, 0, 2, d[3], d[4], d[5], d[6], d[7]);
        }
    }

    private void copyRefused() {
        HatsInRing x = new HatsInRing();
        x.sheet(0, 0, 4);
        x.sheet(1, 1, 4);
        x.sheet(2, 2, 4);
        edge.of(34, "BAD: SHEETS");
        for (int s : new int[] {-1, 4, Edge.LEAST, Edge.MOST}) {
            edge.due("copy(" + s + ", 0, 0, 0, 1)", x.copy(s, 0, 0, 0, 1), -2);
            edge.due("copy(0, 0, " + s + ", 0, 1)", x.copy(0, 0, s, 0, 1), -2);
            edge.due("copy(3, 0, " + s + ", 0, 1)", x.copy(3, 0, s, 0, 1), -2);
        }
        edge.of(34, "-11");
        edge.due("copy(0, 0, 3, 0, 1)", x.copy(0, 0, 3, 0, 1), -11);
        edge.due("copy(3, 0, 0, 0, 1)", x.copy(3, 0, 0, 0, 1), -11);
        edge.due("copy(3, 0, 3, 0, 0)", x.copy(3, 0, 3, 0, 0), -11);

        edge.of(34, "-13: unlike sorts");
        for (int s = 0; s < 3; s++) {
            for (int other = 0; other < 3; other++) {
                edge.due("copy(" + s + ", 0, " + other + ", 0, 1)", x.copy(s, 0, other, 0, 1), s == other ? 1 : -13);
                edge.due("copy(" + s + ", 0, " + other + ", 0, 0)", x.copy(s, 0, other, 0, 0), s == other ? 0 : -13);
            }
        }
    }

    private void copyOutside() {
        edge.of(34, "-12 (n below 0, too).");
        HatsInRing x = new HatsInRing();
        Check.sheet(x, 0, 1, 2, 3, 4);
        Check.sheet(x, 1, 0, 0, 0, 0, 0, 0);
        int[][] refused = {{0, 0, -1}, {0, 0, Edge.LEAST}, {1, 1, -1}, {-1, 0, 1}, {0, -1, 1}, {-1, 0, 0}, {0, -1, 0}, {0, 0, 5},
            {1, 0, 4}, {3, 0, 2}, {4, 0, 1}, {5, 0, 0}, {0, 3, 4}, {0, 6, 1}, {0, 7, 0}, {0, 0, Edge.MOST}, {1, 1, Edge.MOST},
            {Edge.MOST, 0, 1}, {0, Edge.MOST, 1}, {Edge.MOST, 0, Edge.MOST}, {Edge.LEAST, 0, 1}, {0, Edge.LEAST, 1}, {5, 7, -1}};
        for (int[] d : refused) {
            edge.due("copy(0, " + d[0] + ", 1, " + d[1] + ", " + d[2] + ")", x.copy(0, d[0], 1, d[1], d[2]), -12);
        }
        edge.due("onto its own, 5 of 4", x.copy(0, 0, 0, 0, 5), -12);
        edge.due("onto its own, behind the last one", x.copy(0, 1, 0, 2, 3), -12);
        edge.due("just room", x.copy(0, 3, 1, 5, 1), 1);
        x.hat(50, 0, 900);
        is(x, 1, 2, 0, 0, 0, 0, 0, 4);
    }

    private void hatsBy() {
        edge.of(35, "HATS by a SHEET of a sort: from a place on, three by three (as of hat()), n of them (0 .. 6)");
        for (int sort = 0; sort < 3; sort++) {
            for (int n = 0; n <= 6; n++) {
                HatsInRing x = new HatsInRing();
                x.sheet(0, sort, 18);
                for (int i = 0; i < 18; i++) {
                    x.cell(0, i, i + 20);
                }
                edge.due("hatsBy(0, " + sort + ", 0, " + n + ")", x.hatsBy(0, sort, 0, n), n);
                edge.due("count(0)", x.count(0), n);
                for (int p = 0; p < n; p++) {
                    edge.due("told(" + p + ", 4), (" + p + ", 5)", 10 * x.told(p, 4) + x.told(p, 5), 20 + 3 * p);
                    edge.due("told(" + p + ", 0)", x.told(p, 0), 21 + 3 * p);
                    edge.due("told(" + p + ", 1), (" + p + ", 2)", 100 * x.told(p, 1) + x.told(p, 2), 22 + 3 * p);
                }
            }
        }
        HatsInRing last = new HatsInRing();
        Check.sheet(last, 0, new int[40]);
        last.cell(0, 37, 59);
        last.cell(0, 38, 63);
        last.cell(0, 39, 9999);
        edge.due("hatsBy(0, 2, 37, 1)", last.hatsBy(0, 2, 37, 1), 1);
        int[] told = {63, 99, 99, 0, 5, 9};
        for (int what = 0; what < 6; what++) {
            edge.due("told(0, " + what + ")", last.told(0, what), told[what]);
        }

        edge.of(35, "how many came (others are left out)");
        HatsInRing x = new HatsInRing();
        Check.sheet(x, 0, 60, 0, 0, 0, 64, 0, 0, 0, 10000, -1, 0, 0, 59, 63, 9999, 0, -1, 0);
        edge.due("one of six", x.hatsBy(0, 2, 0, 6), 1);
        edge.due("count(0)", x.count(0), 1);
        edge.due("told(0, 0)", x.told(0, 0), 63);
        x.cell(0, 9, 0);
        edge.due("two of four", x.hatsBy(0, 2, 6, 4), 2);
        edge.due("five have room for three", x.hatsBy(0, 2, 9, 2), 2);
        edge.due("one has room", x.hatsBy(0, 2, 9, 2), 1);
        edge.due("none has room", x.hatsBy(0, 2, 9, 2), 0);
        edge.due("count(0)", x.count(0), 6);
    }

    private void hatsByOutside() {
        edge.of(35, "-12: what stood ahead came.");
        HatsInRing x = new HatsInRing();
        Check.sheet(x, 0, 1, 1, 101, 2, 2, 202, 3, 3);
        edge.due("hatsBy(0, 2, 0, 3)", x.hatsBy(0, 2, 0, 3), -12);
        edge.due("two came", x.count(0), 2);
        edge.due("told(1, 0)", x.told(1, 0), 2);
        edge.due("hatsBy(0, 2, 5, 2)", x.hatsBy(0, 2, 5, 2), -12);
        edge.due("202 3 3: none came", x.count(0), 2);
        edge.due("hatsBy(0, 2, 3, 2)", x.hatsBy(0, 2, 3, 2), -12);
        edge.due("one came", x.count(0), 3);
        for (int from : new int[] {-1, -2, -3, 6, 7, 8, 9, 40, Edge.LEAST, Edge.MOST, Edge.MOST - 2}) {
            edge.due("hatsBy(0, 2, " + from + ", 1)", x.hatsBy(0, 2, from, 1), -12);
            edge.due("hatsBy(0, 2, " + from + ", 6)", x.hatsBy(0, 2, from, 6), -12);
        }
        edge.due("none came", x.count(0), 3);
        edge.due("hatsBy(0, 2, 0, 2)", x.hatsBy(0, 2, 0, 2), 2);
        edge.due("hatsBy(0, 2, 0, 3)", x.hatsBy(0, 2, 0, 3), -12);
        edge.due("one had room", x.count(0), 6);
        edge.due("none has room", x.hatsBy(0, 2, 0, 2), 0);
        edge.due("none has room, a place outside", x.hatsBy(0, 2, 0, 3), -12);
        HatsInRing none = new HatsInRing();
        Check.sheet(none, 0);
        edge.due("a SHEET of none", none.hatsBy(0, 2, 0, 1), -12);
        edge.due("a SHEET of none, no HATS", none.hatsBy(0, 2, 0, 0), 0);
    }

    private void hatsByRefused() {
        HatsInRing x = new HatsInRing();
        edge.of(35, "BAD: SHEET, sort, n");
        Check.sheet(x, 0, new int[21]);
        for (int s : new int[] {-1, 4, Edge.LEAST, Edge.MOST}) {
            edge.due("hatsBy(" + s + ", 2, 0, 1)", x.hatsBy(s, 2, 0, 1), -2);
        }
        for (int sort : new int[] {-1, 3, Edge.LEAST, Edge.MOST}) {
            edge.due("hatsBy(0, " + sort + ", 0, 1)", x.hatsBy(0, sort, 0, 1), -2);
            edge.due("hatsBy(1, " + sort + ", 0, 1), missing", x.hatsBy(1, sort, 0, 1), -2);
        }
        for (int n : new int[] {-1, 7, Edge.LEAST, Edge.MOST}) {
            edge.due("hatsBy(0, 2, 0, " + n + ")", x.hatsBy(0, 2, 0, n), -2);
        }
        edge.of(35, "-11");
        edge.due("hatsBy(1, 2, 0, 1)", x.hatsBy(1, 2, 0, 1), -11);
        edge.due("hatsBy(1, 2, 0, 0)", x.hatsBy(1, 2, 0, 0), -11);

        edge.of(35, "-13");
        edge.due("hatsBy(0, 0, 0, 1)", x.hatsBy(0, 0, 0, 1), -13);
        edge.due("hatsBy(0, 1, 0, 0)", x.hatsBy(0, 1, 0, 0), -13);
        x.sheet(0, 0, 3);
        edge.due("hatsBy(0, 2, 0, 1)", x.hatsBy(0, 2, 0, 1), -13);
        edge.due("hatsBy(0, 1, 0, 1)", x.hatsBy(0, 1, 0, 1), -13);
        edge.due("none came", x.count(0), 0);
        edge.due("hatsBy(0, 0, 0, 1)", x.hatsBy(0, 0, 0, 1), 1);
    }

    private void taken() {
        edge.of(36, "What lies at place i: 0 .. 5 HATS, 6 .. 11 their FELT, taken for 0 .. 5 a HAT of that KIND (also of one that is one): "
            + "the number; 6 FELT.");
        String[] as = {"100000", "110000", "101000", "110100", "101010", "100001"};
        HatsInRing x = new HatsInRing();
        for (int p = 0; p < 6; p++) {
            x.hat(10 * p + 9, 0, 100 * (p == 0 ? 0 : 94 + p));
        }
        for (int p = 0; p < 6; p++) {
            for (int kind = 0; kind < 6; kind++) {
                edge.due("taken(" + p + ", " + kind + ")", x.taken(p, kind), as[p].charAt(kind) == '1' ? p : -13);
            }
            edge.due("taken(" + (6 + p) + ", 6)", x.taken(6 + p, 6), p == 0 ? 0 : 94 + p);
        }

        edge.of(36, "-13.");
        for (int p = 0; p < 6; p++) {
            edge.due("taken(" + p + ", 6)", x.taken(p, 6), -13);
            for (int kind = 0; kind < 6; kind++) {
                edge.due("taken(" + (6 + p) + ", " + kind + ")", x.taken(6 + p, kind), -13);
                edge.due("taken(" + p + ", " + kind + ")", x.taken(p, kind) == -13 ? 0 : 1, as[p].charAt(kind) - '0');
            }
        }
    }

    private void takenRefused() {
        HatsInRing x = Edge.ring(0, 0, 500);
        edge.of(36, "BAD: kind");
        for (int kind : new int[] {-1, 7, Edge.LEAST, Edge.MOST}) {
            edge.due("taken(0, " + kind + ")", x.taken(0, kind), -2);
            edge.due("taken(6, " + kind + ")", x.taken(6, kind), -2);
        }
        edge.of(36, "-12: i");
        for (int i : new int[] {-1, -6, 12, Edge.LEAST, Edge.MOST}) {
            edge.due("taken(" + i + ", 0)", x.taken(i, 0), -12);
            edge.due("taken(" + i + ", 6)", x.taken(i, 6), -12);
        }
        edge.of(36, "-11: none such");
        for (int p = 1; p < 6; p++) {
            edge.due("taken(" + p + ", 0)", x.taken(p, 0), -11);
            edge.due("taken(" + (6 + p) + ", 6)", x.taken(6 + p, 6), -11);
        }
        edge.due("taken(0, 0)", x.taken(0, 0), 0);
        edge.due("taken(6, 6)", x.taken(6, 6), 5);
    }
}
