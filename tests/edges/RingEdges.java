/** Promises 1 to 10: the ring, the law, hats. */
final class RingEdges {
    private final Edge edge;

    RingEdges(Edge edge) {
        this.edge = edge;
    }

    void test() {
        lastCall();
        empty();
        counts();
        feedNumbers();
        feedBytes();
        feedFull();
        text();
        textFull();
        force();
        asks();
        hat();
        put();
        told();
        duel();
    }

    private void lastCall() {
        edge.of("What it is", "An object is used for at most 512 calls after it has been made");
        HatsInRing x = new HatsInRing();
        x.hat(0, 0, 9900);
        x.hat(59, 0, 9900);
        for (int call = 3; call < 512; call++) {
            x.round();
        }
        edge.due("the 512th call", x.told(1, 3), 99);
        HatsInRing y = new HatsInRing();
        for (int p = 0; p < 6; p++) {
            y.hat(10 * p + 9, 9 * p, 9999);
        }
        for (int call = 7; call < 512; call++) {
            y.toss(call % 6, 40, call % 2);
        }
        edge.due("the 512th call", y.told(5, 0), 45);
    }

    private void empty() {
        edge.of(1, "An empty ring.");
        HatsInRing x = new HatsInRing();
        int[] counts = {0, 0, 0, 1, 0, 0};
        for (int what = 0; what < 6; what++) {
            edge.due("count(" + what + ")", x.count(what), counts[what]);
        }
        for (int p = -1; p < 7; p++) {
            edge.due("told(" + p + ", 0)", x.told(p, 0), -5);
            edge.due("asks(0, " + p + ")", x.asks(0, p), -1000);
        }
        edge.due("run(60, 0)", x.run(60, 0), 0);
        edge.due("run(60, 1)", x.run(60, 1), 0);
        edge.due("run(0, 10)", x.run(0, 10), -2);
        edge.due("end(0)", x.end(0), -1);
        edge.due("end(1)", x.end(1), 0);
        edge.due("end(2)", x.end(2), -1);
        edge.due("end(3)", x.end(3), -1);
        edge.due("when(6)", x.when(6), 0);
        edge.due("drawn(0, 0)", x.drawn(0, 0), 0);
        edge.due("taken(0, 0)", x.taken(0, 0), -11);
        edge.due("back()", x.back(), -3);
        edge.due("text()", x.text(), -100);
        for (int s = 0; s < 4; s++) {
            edge.due("whose(" + s + ")", x.whose(s), -11);
        }
        edge.due("image()", x.image(), 0);
        edge.due("another object's ring", Edge.ring(0, 0, 100).count(0) + new HatsInRing().count(0), 1);
    }

    private void counts() {
        edge.of(2, "0 HATS, 1 ROUND, 2 HATS that are UP, 3 TEXTS, 4 THE LAW, 5 bytes of THE TAPE.");
        HatsInRing x = Edge.ring(0, 0, 100, 0, 0, 100, 0, 0, 100, 0, 0, 100, 0, 0, 100, 0, 0, 100);
        for (int t = 1; t < 6; t++) {
            Check.text(x, "goes 1;hits 1;soft 1;");
        }
        x.force(5);
        x.bell(999);
        for (int i = 0; i < 32; i++) {
            x.feed(5, 0, 0, 0, 0, 0);
        }
        int[] most = {6, 999, 6, 6, 5, 160};
        for (int what = 0; what < 6; what++) {
            edge.due("count(" + what + ")", x.count(what), most[what]);
        }
        x.put(5, 1, 0);
        edge.due("count(2), one being FLAT", x.count(2), 5);
        edge.due("count(0), one being FLAT", x.count(0), 6);

        edge.of(2, "BAD.");
        edge.due("count(-1)", x.count(-1), -2);
        edge.due("count(6)", x.count(6), -2);
        for (int far : Edge.FAR_OFF) {
            edge.due("count(" + far + ")", x.count(far), -2);
        }
    }

    private void feedNumbers() {
        edge.of(3, "The first n (1 .. 5)");
        HatsInRing x = new HatsInRing();
        edge.due("feed(0, ..)", x.feed(0, 0, 0, 0, 0, 0), -2);
        edge.due("feed(6, ..)", x.feed(6, 0, 0, 0, 0, 0), -2);
        int size = 0;
        for (int n = 1; n <= 5; n++) {
            size += n;
            edge.due("feed(" + n + ", ..)", x.feed(n, ' ', ' ', ' ', ' ', ' '), size);
        }
        HatsInRing y = new HatsInRing();
        y.feed(4, 'g', 'o', 'e', 's', '?');
        y.feed(3, '1', ';', 'h', '?', '?');
        y.feed(2, 'i', 't', '?', '?', '?');
        y.feed(1, 's', '?', '?', '?', '?');
        y.feed(5, '5', ';', 's', 'o', 'f');
        y.feed(4, 't', '0', ' ', ';', '?');
        edge.due("just the first n", y.text(), 1);

        edge.of(3, "come behind THE TAPE's, one by one: how many it has");
        HatsInRing z = new HatsInRing();
        edge.due("onto an empty one", z.feed(1, ' ', 0, 0, 0, 0), 1);
        edge.due("behind one", z.feed(1, '?', 0, 0, 0, 0), 2);
        edge.due("behind two", z.feed(2, 'g', 'o', 0, 0, 0), 4);
        edge.due("count(5)", z.count(5), 4);
        edge.due("in their order", z.text(), -101);
        edge.due("onto an empty one, again", z.feed(5, 'a', 'b', 'c', 'd', 'e'), 5);
    }

    private void feedBytes() {
        edge.of(3, "of five bytes (0 .. 255 each)");
        HatsInRing x = new HatsInRing();
        edge.due("feed(5, 0, ..)", x.feed(5, 0, 0, 0, 0, 0), 5);
        edge.due("feed(5, 255, ..)", x.feed(5, 255, 255, 255, 255, 255), 10);
        edge.due("byte 0 stands there", x.text(), -100);

        edge.of(3, "BAD: n, any of the five");
        for (int n : new int[] {-1, 0, 6, Edge.LEAST, Edge.MOST}) {
            edge.due("feed(" + n + ", ..)", x.feed(n, 1, 1, 1, 1, 1), -2);
        }
        for (int i = 0; i < 5; i++) {
            for (int v : new int[] {-1, 256, Edge.LEAST, Edge.MOST, 256 + ' '}) {
                int[] b = {' ', ' ', ' ', ' ', ' '};
                b[i] = v;
                for (int n = 1; n <= 5; n += 2) {
                    edge.due(v + " at " + i + ", n " + n, x.feed(n, b[0], b[1], b[2], b[3], b[4]), -2);
                }
            }
        }
        edge.due("none came", x.count(5), 0);
    }

    private void feedFull() {
        edge.of(3, "FULL: they have not all room (none comes).");
        for (int n = 1; n <= 5; n++) {
            for (int room = 0; room <= 5; room++) {
                HatsInRing x = new HatsInRing();
                for (int size = 0; size < 155; size += 5) {
                    x.feed(5, ' ', ' ', ' ', ' ', ' ');
                }
                if (room < 5) {
                    x.feed(5 - room, ' ', ' ', ' ', ' ', ' ');
                }
                String call = "feed(" + n + ", ..), room for " + room;
                edge.due(call, x.feed(n, '?', '?', '?', '?', '?'), n <= room ? 160 - room + n : -4);
                edge.due("count(5) behind " + call, x.count(5), n <= room ? 160 - room + n : 160 - room);
                edge.due("text() behind " + call, x.text(), -260 + room);
                edge.due("feed(5, ..) behind that", x.feed(5, 0, 0, 0, 0, 0), 5);
            }
        }
    }

    private void text() {
        edge.of(4, "THE TAPE, which is empty then (by a FAULT, too), is a TEXT: its number");
        HatsInRing x = new HatsInRing();
        for (int t = 1; t < 6; t++) {
            edge.due("a FAULT", Check.text(x, "goes 1;hits 5;soft 0"), -120);
            edge.due("count(5)", x.count(5), 0);
            edge.due("count(3)", x.count(3), t);
            edge.due("an empty tape", x.text(), -100);
            edge.due("a TEXT", Check.text(x, "goes 1;hits 5;soft 0;"), t);
            edge.due("count(5)", x.count(5), 0);
            edge.due("count(3)", x.count(3), t + 1);
        }

        HatsInRing y = Edge.ring(0, 0, 100);
        edge.due("a FAULT at the end", Check.text(y, "goes 7;hits 8;soft 9;9"), -121);
        edge.due("a FAULT ahead", Check.text(y, "goes 4;hits 3+"), -114);
        edge.due("a TEXT", Check.text(y, "goes 0;hits 1;soft 2;"), 1);
        y.force(1);
        for (int part = 0; part < 3; part++) {
            edge.due("asks(" + part + ", 0), nothing of the FAULTS stays", y.asks(part, 0), part);
        }
        edge.due("a FAULT behind a TEXT", Check.text(y, "goes 6;hits 6;soft 6;?"), -121);
        for (int part = 0; part < 3; part++) {
            edge.due("asks(" + part + ", 0), a FAULT is no TEXT", y.asks(part, 0), part);
        }

        edge.of(4, "-100 less the place of its FAULT");
        edge.due("place 0", Check.text(new HatsInRing(), "?"), -100);
        edge.due("place 1", Check.text(new HatsInRing(), " ?"), -101);
        edge.due("place 4", Check.text(new HatsInRing(), "goes"), -104);
        StringBuilder tape = new StringBuilder("goes 1;hits 5;soft 0;");
        while (tape.length() < 159) {
            tape.append('\n');
        }
        edge.due("place 159", Check.text(new HatsInRing(), tape + "?"), -259);
        tape.setCharAt(20, ' ');
        edge.due("place 160", Check.text(new HatsInRing(), tape + " "), -260);
    }

    private void textFull() {
        edge.of(4, "FULL (ahead of the FAULT; then THE TAPE stays).");
        HatsInRing x = new HatsInRing();
        for (int t = 1; t < 6; t++) {
            edge.due("TEXT " + t, Check.text(x, "goes 1;hits 5;soft 0;"), t);
        }
        edge.due("an empty tape", x.text(), -4);
        edge.due("a FAULT", Check.text(x, "goes ?"), -4);
        edge.due("count(5)", x.count(5), 6);
        edge.due("text()", x.text(), -4);
        edge.due("feed(5, ..)", x.feed(5, 1, 1, 1, 1, 1), 11);
        edge.due("count(3)", x.count(3), 6);
        HatsInRing y = new HatsInRing();
        for (int t = 1; t < 6; t++) {
            Check.text(y, "goes 1;hits 5;soft 0;");
        }
        edge.due("no FAULT", Check.text(y, "goes 1;hits 5;soft 0;"), -4);
        edge.due("count(5)", y.count(5), 21);
    }

    private void force() {
        edge.of(5, "A TEXT is THE LAW: which was.");
        HatsInRing x = new HatsInRing();
        for (int t = 1; t < 6; t++) {
            Check.text(x, "goes 1;hits 5;soft 0;");
        }
        edge.due("force(5)", x.force(5), 0);
        edge.due("force(5)", x.force(5), 5);
        edge.due("force(0)", x.force(0), 5);
        edge.due("count(4)", x.count(4), 0);

        edge.of(5, "BAD.");
        HatsInRing y = new HatsInRing();
        edge.due("force(1), one TEXT", y.force(1), -2);
        Check.text(y, "goes 1;hits 5;soft 0;");
        edge.due("force(1), two TEXTS", y.force(1), 0);
        Check.text(y, "goes 1;hits 5;soft 0");
        edge.due("force(2), a FAULT is no TEXT", y.force(2), -2);
        edge.due("force(-1)", y.force(-1), -2);
        for (int far : Edge.FAR_OFF) {
            edge.due("force(" + far + ")", y.force(far), -2);
        }
        edge.due("count(4)", y.count(4), 1);
    }

    private void asks() {
        edge.of(6, "What part 0 goes, 1 hits, 2 soft says of a HAT.");
        HatsInRing each = Edge.by("goes felt+more;hits felt+more;soft 0-felt-more;", 0, 0, 0, 59, 0, 9900, 41, 63, 100);
        int[][] due = {{0, 0, 0}, {99, 99, -99}, {2, 2, -2}};
        for (int p = 0; p < 3; p++) {
            for (int part = 0; part < 3; part++) {
                edge.due("asks(" + part + ", " + p + "), whatever its KIND", each.asks(part, p), due[p][part]);
            }
        }

        edge.of(6, "-1000: none such.");
        HatsInRing x = Edge.by("goes 7;hits 8;soft 0-99;", 0, 0, 0, 0, 0, 100);
        for (int p = 0; p < 2; p++) {
            edge.due("asks(0, " + p + ")", x.asks(0, p), 7);
            edge.due("asks(1, " + p + ")", x.asks(1, p), 8);
            edge.due("asks(2, " + p + ")", x.asks(2, p), -99);
            edge.due("asks(-1, " + p + ")", x.asks(-1, p), -1000);
            edge.due("asks(3, " + p + ")", x.asks(3, p), -1000);
        }
        edge.due("asks(0, 2)", x.asks(0, 2), -1000);
        edge.due("asks(0, -1)", x.asks(0, -1), -1000);
        for (int far : Edge.FAR_OFF) {
            edge.due("asks(" + far + ", 0)", x.asks(far, 0), -1000);
            edge.due("asks(0, " + far + ")", x.asks(0, far), -1000);
        }
    }

    private void hat() {
        edge.of(7, "A HAT (kindMore: 10 times KIND, and MORE; AT a place; feltPride: 100 times FELT, and PRIDE): the number.");
        int[][] due = {{0, 0, 0, 0, 0, 0, 0, 0}, {9, 63, 99, 0, 9, 63, 0, 99}, {10, 1, 100, 1, 0, 1, 1, 0}, {19, 7, 199, 1, 9, 7, 1, 99},
            {50, 8, 9900, 5, 0, 8, 99, 0}, {59, 62, 9999, 5, 9, 62, 99, 99}};
        int[] told = {4, 5, 0, 1, 2};
        HatsInRing x = new HatsInRing();
        for (int p = 0; p < 6; p++) {
            int[] d = due[p];
            edge.due("hat(" + d[0] + ", " + d[1] + ", " + d[2] + ")", x.hat(d[0], d[1], d[2]), p);
            for (int i = 0; i < 5; i++) {
                edge.due("told(" + p + ", " + told[i] + ")", x.told(p, told[i]), d[3 + i]);
            }
        }

        edge.of(7, "BAD; FULL.");
        int[][] bad = {{-1, 0, 0}, {60, 0, 0}, {0, -1, 0}, {0, 64, 0}, {0, 0, -1}, {0, 0, 10000}, {-1, 64, 10000}};
        HatsInRing y = Edge.ring(0, 0, 0, 0, 0, 0, 0, 0, 0, 0, 0, 0, 0, 0, 0);
        for (int hats = 5; hats <= 6; hats++) {
            for (int[] b : bad) {
                edge.due("hat(" + b[0] + ", " + b[1] + ", " + b[2] + ")", y.hat(b[0], b[1], b[2]), -2);
            }
            for (int far : Edge.FAR_OFF) {
                edge.due("hat(" + far + ", 0, 0)", y.hat(far, 0, 0), -2);
                edge.due("hat(0, " + far + ", 0)", y.hat(0, far, 0), -2);
                edge.due("hat(0, 0, " + far + ")", y.hat(0, 0, far), -2);
            }
            edge.due("count(0)", y.count(0), hats);
            edge.due("hat(0, 0, 0)", y.hat(0, 0, 0), hats == 5 ? 5 : -4);
        }
        edge.due("count(0)", y.count(0), 6);
    }

    private void put() {
        int[] most = {63, 99, 99, 99};
        HatsInRing x = Edge.ring(0, 5, 4010, 0, 6, 5020);
        edge.of(8, "The PLACE (what 0), FELT (1), PRIDE (2), BLOWS (3) becomes v: what it was.");
        int[][] was = {{5, 40, 10, 0}, {6, 50, 20, 0}};
        for (int p = 0; p < 2; p++) {
            for (int what = 0; what < 4; what++) {
                edge.due("put(" + p + ", " + what + ", 0)", x.put(p, what, 0), was[p][what]);
                edge.due("put(" + p + ", " + what + ", " + most[what] + ")", x.put(p, what, most[what]), 0);
                edge.due("put(" + p + ", " + what + ", 0)", x.put(p, what, 0), most[what]);
                edge.due("told(" + p + ", " + what + ")", x.told(p, what), 0);
            }
        }

        edge.of(8, "-5: none such");
        edge.due("put(2, 0, 0)", x.put(2, 0, 0), -5);
        edge.due("put(-1, 0, 0)", x.put(-1, 0, 0), -5);
        for (int far : Edge.FAR_OFF) {
            edge.due("put(" + far + ", 0, 0)", x.put(far, 0, 0), -5);
        }

        edge.of(8, "-7: what, v.");
        for (int what = 0; what < 4; what++) {
            edge.due("put(0, " + what + ", " + (most[what] + 1) + ")", x.put(0, what, most[what] + 1), -7);
            edge.due("put(0, " + what + ", -1)", x.put(0, what, -1), -7);
            for (int far : Edge.FAR_OFF) {
                edge.due("put(0, " + what + ", " + far + ")", x.put(0, what, far), -7);
            }
            edge.due("told(0, " + what + ")", x.told(0, what), 0);
        }
        edge.due("put(0, -1, 0)", x.put(0, -1, 0), -7);
        edge.due("put(0, 4, 0)", x.put(0, 4, 0), -7);
        for (int far : Edge.FAR_OFF) {
            edge.due("put(0, " + far + ", 0)", x.put(0, far, 0), -7);
        }
    }

    private void told() {
        edge.of(9, "What 0 .. 3 as of put(), 4 KIND, 5 MORE, 6 whether it GOES (1, 0)");
        HatsInRing least = Edge.by("goes 0;hits 5;soft 0;", 0, 0, 0);
        HatsInRing most = Edge.by("goes 99;hits 5;soft 0;", 0, 0, 0, 49, 63, 9999);
        most.put(1, 3, 99);
        int[] due = {63, 99, 99, 99, 4, 9, 1};
        for (int what = 0; what < due.length; what++) {
            edge.due("told(0, " + what + ")", least.told(0, what), 0);
            edge.due("told(1, " + what + ")", most.told(1, what), due[what]);
        }
        edge.due("told(0, 6), FLAT", most.told(0, 6), 1);

        HatsInRing x = Edge.by("goes 1;hits 5;soft 0-99;", 59, 5, 4010, 19, 6, 0);
        edge.of(9, "7 its NEAREST (-1), 8 how SOFT it is (1000 more; 6, 7, 8: UP or not)");
        edge.due("NEAREST of one that is UP, none else is", x.told(0, 7), -1);
        edge.due("NEAREST of one that is FLAT", x.told(1, 7), 0);
        edge.due("one that is FLAT GOES", x.told(1, 6), 1);
        edge.due("SOFT, FLAT", x.told(1, 8), 1000 - 108);
        edge.due("SOFT, UP", x.told(0, 8), 1000 - 288);
        x.put(1, 1, 1);
        edge.due("NEAREST of the other one", x.told(0, 7), 1);
        edge.due("GOES", x.told(1, 6), 1);
        edge.due("SOFT", x.told(1, 8), 1000 - 108);
        edge.due("most SOFT", Edge.by("goes 1;hits 5;soft 99;", 59, 0, 0).told(0, 8), 1306);

        edge.of(9, "-5: none such");
        edge.due("told(2, 0)", x.told(2, 0), -5);
        edge.due("told(-1, 0)", x.told(-1, 0), -5);
        for (int far : Edge.FAR_OFF) {
            edge.due("told(" + far + ", 0)", x.told(far, 0), -5);
        }

        edge.of(9, "-7: what.");
        edge.due("told(0, -1)", x.told(0, -1), -7);
        edge.due("told(0, 9)", x.told(0, 9), -7);
        for (int far : Edge.FAR_OFF) {
            edge.due("told(0, " + far + ")", x.told(0, far), -7);
        }
    }

    private void duel() {
        edge.of(10, "how hard the one HITS the other (what 0), the BLOW (1), how FAR they are (2), TALLY (3)");
        HatsInRing x = Edge.by("goes 1;hits 99;soft 0;", 40, 0, 0, 19, 63, 0, 59, 0, 0);
        int[][] due = {{0, 1, 199, 99, 14, 0}, {1, 0, 108, 99, 14, 0}, {0, 2, 0, 0, 0, 0}, {2, 1, 99, 99, 14, 0}, {1, 2, 108, 99, 14, 0}};
        for (int[] d : due) {
            for (int what = 0; what < 4; what++) {
                edge.due("duel(" + d[0] + ", " + d[1] + ", " + what + "), FLAT", x.duel(d[0], d[1], what), d[2 + what]);
            }
        }

        edge.of(10, "-5: no such two, one and the same");
        for (int p = 0; p < 3; p++) {
            for (int what = 0; what < 4; what++) {
                edge.due("duel(" + p + ", " + p + ", " + what + ")", x.duel(p, p, what), -5);
                edge.due("duel(" + p + ", 3, " + what + ")", x.duel(p, 3, what), -5);
                edge.due("duel(3, " + p + ", " + what + ")", x.duel(3, p, what), -5);
                edge.due("duel(" + p + ", -1, " + what + ")", x.duel(p, -1, what), -5);
                edge.due("duel(-1, " + p + ", " + what + ")", x.duel(-1, p, what), -5);
            }
        }
        edge.due("duel(3, 3, 0)", x.duel(3, 3, 0), -5);
        for (int far : Edge.FAR_OFF) {
            edge.due("duel(" + far + ", 0, 0)", x.duel(far, 0, 0), -5);
            edge.due("duel(0, " + far + ", 0)", x.duel(0, far, 0), -5);
        }

        edge.of(10, "-7: what.");
        edge.due("duel(0, 1, 4)", x.duel(0, 1, 4), -7);
        edge.due("duel(0, 1, -1)", x.duel(0, 1, -1), -7);
        for (int far : Edge.FAR_OFF) {
            edge.due("duel(0, 1, " + far + ")", x.duel(0, 1, far), -7);
        }
    }
}
