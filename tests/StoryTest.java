/** Promises 21 to 27: told rounds. */
public final class StoryTest {
    private static final Check check = new Check();

    public static void main(String[] args) {
        judge();
        refusals();
        kinds();
        states();
        places();
        whose();
        laws();
        film();
        check.end();
    }

    /** 0, of FELT 50, and 1, of FELT 99, stand side by side and hit each other by 5. */
    private static HatsInRing two() {
        HatsInRing x = new HatsInRing();
        x.hat(0, 0, 5000);
        x.hat(0, 1, 9900);
        return x;
    }

    private static void judge() {
        HatsInRing x = two();
        Check.sheet(x, 0, 45, 40, 35, 30);
        check.due(21, "judge(0, 0)", x.judge(0, 0), -1);
        check.due(21, "judge(0, 1)", x.judge(0, 1), 0);
        for (int i = 0; i < 4; i++) {
            Check.sheet(x, 1, 45, 40, 35, 30);
            x.cell(1, i, 99);
            check.due(21, "the number " + i + " is otherwise", x.judge(1, 0), i);
        }
        Check.sheet(x, 2);
        check.due(21, "a SHEET of none", x.judge(2, 0), -1);
        check.due(21, "ROUND stays", x.count(1), 0);
        check.due(21, "FELT stays", x.told(0, 1), 50);
        x.sheet(3, 0, 20);
        for (int i = 0; i < 20; i++) {
            x.cell(3, i, Math.max(0, 45 - 5 * i));
        }
        check.due(21, "20 ROUNDS", x.judge(3, 0), -1);
        x.cell(3, 19, 256);
        check.due(21, "256 is 0 in a SHEET of bytes", x.judge(3, 0), -1);
        x.cell(3, 19, 1);
        check.due(21, "the last one is otherwise", x.judge(3, 0), 19);
        Check.sheet(x, 0, 45 + 65536);
        check.due(21, "an int is told as it is", x.judge(0, 0), 0);
    }

    private static void refusals() {
        HatsInRing x = two();
        Check.sheet(x, 0, new int[21]);
        Check.sheet(x, 1, 1, 2);
        int[][] due = {{-1, 0, -2}, {4, 0, -2}, {4, 9, -2}, {2, 0, -11}, {2, 9, -11}, {0, 0, -2}, {0, 9, -2},
            {1, 2, -5}, {1, -1, -5}};
        for (int[] d : due) {
            String at = "(" + d[0] + ", " + d[1] + ")";
            check.due(21, "judge" + at, x.judge(d[0], d[1]), d[2]);
            check.due(22, "kinds" + at, x.kinds(d[0], d[1], 9, 9), d[2]);
            check.due(23, "states" + at, x.states(d[0], d[1], 9, 9), d[2]);
            check.due(24, "places" + at, x.places(d[0], d[1]), HatsInRing.NO);
            check.due(26, "laws" + at, x.laws(d[0], d[1]), d[2]);
            if (d[2] != -5) {
                check.due(25, "whose(" + d[0] + ")", x.whose(d[0]), d[2]);
            }
        }
        check.due(22, "of", x.kinds(1, 0, 2, 9), -6);
        check.due(22, "of", x.kinds(1, 0, -1, 0), -6);
        check.due(22, "sort", x.kinds(1, 0, 1, 2), -7);
        check.due(22, "sort", x.kinds(1, 0, 1, -1), -7);
        check.due(23, "sort", x.states(1, 0, 0, 0), -7);
        check.due(23, "sort", x.states(1, 0, 3, 0), -7);
        check.due(23, "what", x.states(1, 0, 1, 2), -7);
        check.due(23, "what", x.states(1, 0, 1, -1), -7);
    }

    private static void kinds() {
        HatsInRing x = two();
        Check.sheet(x, 0, 45, 40);
        check.due(22, "KINDS of 1", x.kinds(0, 0, 1, 0), 7);
        check.due(22, "KINDS of itself", x.kinds(0, 0, 0, 0), 63);
        check.due(22, "MORE of a HAT", x.kinds(0, 0, 1, 1), 1023);
        Check.sheet(x, 0, 44);
        check.due(22, "a CAP", x.kinds(0, 0, 1, 0), 1 << 4);
        Check.sheet(x, 0, 50);
        check.due(22, "a SCARECROW", x.kinds(0, 0, 1, 0), 1 << 5);
        Check.sheet(x, 0, 49);
        check.due(22, "none", x.kinds(0, 0, 1, 0), 0);
        x.bell(1);
        check.due(22, "a TOP", x.kinds(0, 0, 1, 0), 1 << 3);
        check.due(22, "KIND stays", x.told(1, 4), 0);
        HatsInRing silk = new HatsInRing();
        silk.hat(0, 0, 5000);
        silk.hat(12, 1, 9900);
        Check.sheet(silk, 0, 36, 22);
        check.due(22, "MORE of a SILK", silk.kinds(0, 0, 1, 1), 1 << 9);
        check.due(22, "MORE stays", silk.told(1, 5), 2);
        Check.sheet(silk, 0, 43);
        check.due(22, "MORE as it is", silk.kinds(0, 0, 1, 1), 1 << 2);
    }

    private static void states() {
        HatsInRing x = two();
        Check.sheet(x, 0, 45, 40);
        check.due(23, "FELT: how many", x.states(0, 0, 1, 0), 1);
        check.due(23, "FELT: the least", x.states(0, 0, 1, 1), 50);
        check.due(23, "PRIDE: how many", x.states(0, 0, 2, 0), 100);
        check.due(23, "PRIDE: the least", x.states(0, 0, 2, 1), 0);
        Check.sheet(x, 1, 0, 0);
        check.due(23, "FELT 0 .. 5: how many", x.states(1, 0, 1, 0), 6);
        check.due(23, "FELT 0 .. 5: the least", x.states(1, 0, 1, 1), 0);
        Check.sheet(x, 1, 94);
        check.due(23, "FELT 99", x.states(1, 0, 1, 1), 99);
        Check.sheet(x, 1, 1, 99);
        check.due(23, "none", x.states(1, 0, 1, 0), 0);
        check.due(23, "none", x.states(1, 0, 1, 1), -1);
        Check.text(x, "goes 1;hits 20;soft pride;");
        x.force(1);
        Check.sheet(x, 2, 41);
        check.due(23, "PRIDE: how many", x.states(2, 0, 2, 0), 1);
        check.due(23, "PRIDE: the least", x.states(2, 0, 2, 1), 10);
        Check.sheet(x, 2, 50);
        check.due(23, "PRIDE: how many", x.states(2, 0, 2, 0), 81);
        check.due(23, "PRIDE: the least", x.states(2, 0, 2, 1), 19);
        check.due(23, "PRIDE stays", x.told(0, 2), 0);
        check.due(23, "FELT stays", x.told(0, 1), 50);
    }

    /** 1 is AT 0 and hits whatever is at most 2 FAR from it (what is 2 FAR steps nearer first). */
    private static void places() {
        HatsInRing x = new HatsInRing();
        x.hat(0, 30, 5000);
        x.hat(0, 0, 9900);
        Check.sheet(x, 0, 45);
        long near = 1L << 0 | 1L << 1 | 1L << 2 | 1L << 8 | 1L << 9 | 1L << 16;
        check.due(24, "places(0, 0)", x.places(0, 0), near);
        Check.sheet(x, 0, 50);
        check.due(24, "places(0, 0)", x.places(0, 0), ~near);
        Check.sheet(x, 0, 51);
        check.due(24, "places(0, 0), none", x.places(0, 0), 0);
        check.due(24, "PLACE stays", x.told(0, 0), 30);
        HatsInRing last = new HatsInRing();
        last.hat(50, 0, 5000);
        last.hat(12, 63, 9900);
        last.hat(0, 47, 9900);
        Check.sheet(last, 0, 43);
        check.due(24, "just 62 and 63", last.places(0, 0), HatsInRing.NO);
    }

    private static void whose() {
        HatsInRing x = two();
        x.hat(50, 63, 5000);
        Check.sheet(x, 0, 45, 40);
        check.due(25, "whose(0)", x.whose(0), 1);
        Check.sheet(x, 0, 94, 89, 84);
        check.due(25, "whose(0)", x.whose(0), 2);
        Check.sheet(x, 0);
        check.due(25, "whose(0)", x.whose(0), 7);
        Check.sheet(x, 0, 3);
        check.due(25, "whose(0)", x.whose(0), 0);
        Check.sheet(x, 0, 50);
        check.due(25, "whose(0)", x.whose(0), 4);
        HatsInRing empty = new HatsInRing();
        Check.sheet(empty, 0, 1);
        check.due(25, "whose(0), empty", empty.whose(0), 0);
    }

    private static void laws() {
        HatsInRing x = two();
        Check.text(x, "goes 1;hits 4;soft 0;");
        Check.text(x, "goes 1;hits 9;soft 4;");
        Check.text(x, "goes 0;hits 5;soft 0;");
        Check.sheet(x, 0, 45, 40);
        check.due(26, "laws(0, 0)", x.laws(0, 0), 1 | 1 << 2);
        Check.sheet(x, 0, 46);
        check.due(26, "laws(0, 0)", x.laws(0, 0), 1 << 1);
        Check.sheet(x, 0, 50);
        check.due(26, "laws(0, 0)", x.laws(0, 0), 1 << 3);
        Check.sheet(x, 0, 51);
        check.due(26, "laws(0, 0)", x.laws(0, 0), 0);
        Check.sheet(x, 0);
        check.due(26, "laws(0, 0)", x.laws(0, 0), 15);
        check.due(26, "THE LAW stays", x.count(4), 0);
    }

    private static void film() {
        HatsInRing x = two();
        Check.sheet(x, 1, 1, 2, 3);
        check.due(27, "film(1, 0, 2)", x.film(1, 0, 2), 2);
        check.due(27, "it has 2", x.cell(1, 2, 0), -12);
        check.due(27, "as it is told", x.whose(1), 1);
        check.due(27, "the first by states()", x.states(1, 0, 1, 1), 50);
        x.sheet(2, 0, 5);
        check.due(27, "it is of bytes", x.copy(1, 0, 2, 0, 2), 2);
        check.due(27, "ROUND stays", x.count(1), 0);
        check.due(27, "FELT stays", x.told(0, 1), 50);
        check.due(27, "film(0, 1, 20)", x.film(0, 1, 20), 20);
        check.due(27, "judge(0, 1)", x.judge(0, 1), -1);
        check.due(27, "film(0, 1, 0)", x.film(0, 1, 0), 0);
        check.due(27, "of none", x.cell(0, 0, 0), -12);
        check.due(27, "film(4, 9, 9)", x.film(4, 9, 99), -2);
        check.due(27, "film(-1, 0, 1)", x.film(-1, 0, 1), -2);
        check.due(27, "film(0, 2, 99)", x.film(0, 2, 99), -5);
        check.due(27, "film(0, -1, 1)", x.film(0, -1, 1), -5);
        check.due(27, "film(1, 0, 21)", x.film(1, 0, 21), -7);
        check.due(27, "film(1, 0, -1)", x.film(1, 0, -1), -7);
        check.due(27, "refused, it stays", x.judge(1, 0), -1);
    }
}
