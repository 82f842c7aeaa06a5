import java.util.Random;

/** Runs of calls by lots, on the class and on the model of the document: all answers are alike. */
public final class ModelTest {
    private static final int RUNS = 400;
    /** Nothing is promised behind an object's 512th call; the longest step of a run makes some forty. */
    private static final int CALLS = 512 - 40;
    private static final Check check = new Check();
    private static final StringBuilder log = new StringBuilder();

    private final Random lots;
    private final HatsInRing x = new HatsInRing();
    private final Model m = new Model();
    private int calls;
    private boolean failed;

    private ModelTest(int seed) {
        lots = new Random(seed);
    }

    public static void main(String[] args) {
        int shown = 0;
        for (int seed = 0; seed < RUNS && shown < 5; seed++) {
            ModelTest test = new ModelTest(seed);
            log.setLength(0);
            while (test.calls < CALLS && !test.failed) {
                test.call();
            }
            if (test.failed) {
                shown++;
                check.fail("run " + seed + ":\n" + log);
            }
        }
        check.end();
    }

    private void same(String call, long got, long want) {
        calls++;
        log.append(call).append(" = ").append(want).append('\n');
        if (got != want) {
            log.append("BUT answered ").append(got).append('\n');
            failed = true;
        }
    }

    /** Mostly 0 .. most, at times an edge or something far off. */
    private int upTo(int most) {
        int lot = lots.nextInt(60);
        return lot == 0 ? -1 : lot == 1 ? most + 1 : lot == 2 ? most : lot == 3 ? 0
            : lot == 4 && lots.nextInt(4) == 0 ? lots.nextInt() : lots.nextInt(most + 1);
    }

    private int hatNumber() {
        return upTo(Math.max(0, m.count(0) - 1));
    }

    private int sheetNumber() {
        return upTo(3);
    }

    private void call() {
        int lot = lots.nextInt(100);
        if (lot < 34) {
            change(lots.nextInt(17));
        } else if (lot < 70) {
            askOfRing(lots.nextInt(17));
        } else {
            askOfSheets(lots.nextInt(12));
        }
    }

    private void change(int which) {
        int a = 0;
        int b = 0;
        int c = 0;
        switch (which) {
            case 0:
            case 1:
            case 2:
                a = upTo(59);
                b = lots.nextBoolean() ? upTo(63) : upTo(20);
                c = lots.nextBoolean() ? upTo(9999) : 100 * upTo(30);
                same("hat(" + a + ", " + b + ", " + c + ")", x.hat(a, b, c), m.hat(a, b, c));
                break;
            case 3:
            case 4:
                a = hatNumber();
                b = upTo(3);
                c = b == 0 ? upTo(63) : upTo(99);
                same("put(" + a + ", " + b + ", " + c + ")", x.put(a, b, c), m.put(a, b, c));
                break;
            case 5:
                feedText(RandomText.of(lots));
                break;
            case 6:
                a = upTo(m.count(3) - 1);
                same("force(" + a + ")", x.force(a), m.force(a));
                break;
            case 7:
            case 8:
            case 9:
                same("round()", x.round(), m.round());
                break;
            case 10:
                a = lots.nextInt(3) == 0 ? upTo(999) : upTo(12);
                same("bell(" + a + ")", x.bell(a), m.bell(a));
                break;
            case 11:
                same("image()", x.image(), m.image());
                break;
            case 12:
                same("back()", x.back(), m.back());
                break;
            case 13:
                a = upTo(3);
                b = upTo(2);
                c = lots.nextInt(8) == 0 ? upTo(40) : upTo(9);
                b = lots.nextInt(12) == 0 ? -1 : b;
                same("sheet(" + a + ", " + b + ", " + c + ")", x.sheet(a, b, c), m.sheet(a, b, c));
                break;
            case 14:
                hatsBy();
                break;
            default:
                a = sheetNumber();
                b = hatNumber();
                c = lots.nextBoolean() ? upTo(20) : upTo(5);
                same("film(" + a + ", " + b + ", " + c + ")", x.film(a, b, c), m.film(a, b, c));
                if (lots.nextInt(3) == 0) {
                    askOfStory(a, b, c);
                }
                break;
        }
    }

    /** A story that is right, or all but one number of it is. */
    private void askOfStory(int s, int p, int n) {
        if (lots.nextBoolean() && n > 0) {
            int i = lots.nextInt(Math.min(n, 20));
            int v = lots.nextInt(100);
            same("cell(" + s + ", " + i + ", " + v + ")", x.cell(s, i, v), m.cell(s, i, v));
        }
        int of = hatNumber();
        same("judge", x.judge(s, p), m.judge(s, p));
        same("kinds 0", x.kinds(s, p, of, 0), m.kinds(s, p, of, 0));
        same("kinds 1", x.kinds(s, p, of, 1), m.kinds(s, p, of, 1));
        same("states 1", x.states(s, p, 1, 0), m.states(s, p, 1, 0));
        same("states 2", x.states(s, p, 2, 1), m.states(s, p, 2, 1));
        same("places", x.places(s, p), m.places(s, p));
        same("whose", x.whose(s), m.whose(s));
        same("laws", x.laws(s, p), m.laws(s, p));
    }

    private void feedText(String text) {
        for (int i = 0; i < text.length(); i += 5) {
            int n = Math.min(5, text.length() - i);
            int[] b = new int[5];
            for (int k = 0; k < n; k++) {
                b[k] = text.charAt(i + k);
            }
            if (lots.nextInt(300) == 0) {
                b[lots.nextInt(5)] = upTo(255);
            }
            same("feed(" + n + ", " + b[0] + ", " + b[1] + ", " + b[2] + ", " + b[3] + ", " + b[4] + ")",
                x.feed(n, b[0], b[1], b[2], b[3], b[4]), m.feed(n, b));
        }
        int n = upTo(5);
        same("feed(" + n + ", 32, 10, 32, 10, 32)", x.feed(n, 32, 10, 32, 10, 32), m.feed(n, 32, 10, 32, 10, 32));
        same("text()", x.text(), m.text());
    }

    private void hatsBy() {
        int s = sheetNumber();
        int sort = lots.nextInt(4) == 0 ? upTo(2) : lots.nextInt(3);
        same("sheet(" + s + ", " + sort + ", 9)", x.sheet(s, sort, 9), m.sheet(s, sort, 9));
        for (int i = 0; i < 9; i++) {
            int v = i % 3 == 0 ? upTo(59) : i % 3 == 1 ? upTo(63) : upTo(9999);
            same("cell(" + s + ", " + i + ", " + v + ")", x.cell(s, i, v), m.cell(s, i, v));
        }
        int as = lots.nextInt(4) == 0 ? upTo(2) : sort;
        int from = lots.nextInt(3) == 0 ? upTo(9) : 0;
        int n = lots.nextInt(3) == 0 ? upTo(6) : upTo(3);
        same("hatsBy(" + s + ", " + as + ", " + from + ", " + n + ")", x.hatsBy(s, as, from, n), m.hatsBy(s, as, from, n));
    }

    private void askOfRing(int which) {
        int p = hatNumber();
        int q = hatNumber();
        int what = upTo(1);
        int n = lots.nextBoolean() ? upTo(40) : upTo(9);
        switch (which) {
            case 0: same("count", x.count(what), m.count(what)); break;
            case 1: what = upTo(5); same("count " + what, x.count(what), m.count(what)); break;
            case 2: what = upTo(2); same("asks " + what + " " + p, x.asks(what, p), m.asks(what, p)); break;
            case 3:
            case 4: what = upTo(8); same("told " + p + " " + what, x.told(p, what), m.told(p, what)); break;
            case 5:
            case 6: what = upTo(3); same("duel " + p + " " + q + " " + what, x.duel(p, q, what), m.duel(p, q, what)); break;
            case 7:
            case 8:
                n = lots.nextBoolean() ? upTo(60) : upTo(12);
                what = lots.nextInt(3) == 0 ? upTo(39) : lots.nextInt(4) == 0 ? what : 10 + 10 * lots.nextInt(3) + p;
                same("run " + n + " " + what, x.run(n, what), m.run(n, what));
                break;
            case 9: what = upTo(6); same("when " + what, x.when(what), m.when(what)); break;
            case 10: what = upTo(3); same("end " + what, x.end(what), m.end(what)); break;
            case 11: same("beaten " + p + " " + what, x.beaten(p, what), m.beaten(p, what)); break;
            case 12: same("toss " + p + " " + n + " " + what, x.toss(p, n, what), m.toss(p, n, what)); break;
            case 13: same("rid " + p + " " + n + " " + what, x.rid(p, n, what), m.rid(p, n, what)); break;
            case 14: same("lasts " + p + " " + n, x.lasts(p, n), m.lasts(p, n)); break;
            case 15: same("betting " + p + " " + what, x.betting(p, what), m.betting(p, what)); break;
            default:
                int seed = upTo(99999);
                same("drawn " + seed + " " + what, x.drawn(seed, what), m.drawn(seed, what));
                same("odds " + seed + " " + n + " " + p + " " + what, x.odds(seed, n, p, what), m.odds(seed, n, p, what));
                break;
        }
    }

    private void askOfSheets(int which) {
        int s = sheetNumber();
        int p = hatNumber();
        int of = hatNumber();
        int sort = upTo(1);
        int what = upTo(1);
        int i = upTo(9);
        int v = lots.nextInt(3) == 0 ? lots.nextInt() : upTo(99);
        switch (which) {
            case 0: same("judge " + s + " " + p, x.judge(s, p), m.judge(s, p)); break;
            case 1:
            case 2: same("kinds " + s + " " + p + " " + of + " " + sort, x.kinds(s, p, of, sort), m.kinds(s, p, of, sort)); break;
            case 3:
            case 4: same("states " + s + " " + p + " " + (sort + 1) + " " + what, x.states(s, p, sort + 1, what), m.states(s, p, sort + 1, what)); break;
            case 5: same("places " + s + " " + p, x.places(s, p), m.places(s, p)); break;
            case 6: same("whose " + s, x.whose(s), m.whose(s)); break;
            case 7: same("laws " + s + " " + p, x.laws(s, p), m.laws(s, p)); break;
            case 8: same("cell " + s + " " + i + " " + v, x.cell(s, i, v), m.cell(s, i, v)); break;
            case 9:
            case 10:
                int other = lots.nextInt(4) == 0 ? s : sheetNumber();
                int j = upTo(6);
                int n = upTo(6);
                same("copy " + s + " " + i + " " + other + " " + j + " " + n, x.copy(s, i, other, j, n), m.copy(s, i, other, j, n));
                break;
            default: what = upTo(6); i = upTo(11); same("taken " + i + " " + what, x.taken(i, what), m.taken(i, what)); break;
        }
    }
}
