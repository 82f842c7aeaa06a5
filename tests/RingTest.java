/** Promises 1 to 10: the ring, the law, hats. */
public final class RingTest {
    private static final Check check = new Check();

    public static void main(String[] args) {
        newObject();
        counts();
        feeding();
        texts();
        faults();
        sayings();
        bounds();
        forcing();
        hats();
        putting();
        goings();
        nearests();
        softs();
        hits();
        duels();
        check.end();
    }

    private static HatsInRing byLaw(String text) {
        HatsInRing x = new HatsInRing();
        check.due(4, text, Check.text(x, text), 1);
        x.force(1);
        return x;
    }

    private static void newObject() {
        HatsInRing x = new HatsInRing();
        int[] counts = {0, 0, 0, 1, 0, 0};
        for (int what = 0; what < counts.length; what++) {
            check.due(1, "count(" + what + ")", x.count(what), counts[what]);
        }
        check.due(1, "back()", x.back(), HatsInRing.STATE);
        check.due(1, "judge(3, 0)", x.judge(3, 0), -11);
        check.due(1, "told(0, 0)", x.told(0, 0), -5);
        check.due(1, "NONE", HatsInRing.NONE, -1);
        check.due(1, "BAD", HatsInRing.BAD, -2);
        check.due(1, "FULL", HatsInRing.FULL, -4);
        check.due(1, "NO", HatsInRing.NO, -(1L << 62));
    }

    private static void counts() {
        HatsInRing x = new HatsInRing();
        x.hat(0, 0, 0);
        x.hat(0, 1, 100);
        x.hat(0, 1, 99);
        x.bell(7);
        Check.text(x, "goes 1;hits 1;soft 1;");
        x.force(1);
        x.feed(3, 1, 2, 3, 0, 0);
        int[] counts = {3, 7, 1, 2, 1, 3};
        for (int what = 0; what < counts.length; what++) {
            check.due(2, "count(" + what + ")", x.count(what), counts[what]);
        }
        check.due(2, "count(6)", x.count(6), -2);
        check.due(2, "count(-1)", x.count(-1), -2);
    }

    private static void feeding() {
        HatsInRing x = new HatsInRing();
        check.due(3, "feed of 1", x.feed(1, 'g', 'x', 'x', 'x', 'x'), 1);
        check.due(3, "feed of 4", x.feed(4, 'o', 'e', 's', '1', 'x'), 5);
        check.due(3, "the first n bytes come, in their order", x.text(), -105);
        check.due(3, "feed(5, 0, 255, ..)", x.feed(5, 0, 255, 0, 255, 0), 5);
        check.due(3, "feed(0, ..)", x.feed(0, 0, 0, 0, 0, 0), -2);
        check.due(3, "feed(6, ..)", x.feed(6, 0, 0, 0, 0, 0), -2);
        check.due(3, "feed(-1, ..)", x.feed(-1, 0, 0, 0, 0, 0), -2);
        for (int i = 0; i < 5; i++) {
            int[] b = new int[5];
            b[i] = 256;
            check.due(3, "256 at " + i, x.feed(1, b[0], b[1], b[2], b[3], b[4]), -2);
            b[i] = -1;
            check.due(3, "-1 at " + i, x.feed(1, b[0], b[1], b[2], b[3], b[4]), -2);
        }
        check.due(3, "nothing came of these", x.count(5), 5);
        for (int i = 2; i <= 31; i++) {
            x.feed(5, 32, 32, 32, 32, 32);
        }
        check.due(3, "155 bytes", x.count(5), 155);
        check.due(3, "feed of 3", x.feed(3, 32, 32, 32, 32, 32), 158);
        check.due(3, "3 where 2 have room", x.feed(3, 32, 32, 32, 32, 32), -4);
        check.due(3, "none of them came", x.count(5), 158);
        check.due(3, "2 where 2 have room", x.feed(2, 32, 32, 32, 32, 32), 160);
        check.due(3, "1 where none has room", x.feed(1, 32, 32, 32, 32, 32), -4);
        check.due(3, "BAD ahead of FULL", x.feed(1, 32, 32, 32, 32, 999), -2);
    }

    private static void texts() {
        HatsInRing x = new HatsInRing();
        check.due(4, "a FAULT", Check.text(x, "goes 1 ;"), -108);
        check.due(4, "the tape behind a FAULT", x.count(5), 0);
        check.due(4, "texts behind a FAULT", x.count(3), 1);
        check.due(4, "closely written", Check.text(x, "goes1;hits5;soft0;"), 1);
        check.due(4, "widely written", Check.text(x, " \ngoes\n\n1 ; hits 5\n;soft 0 ;\n "), 2);
        check.due(4, "the tape behind a TEXT", x.count(5), 0);
        StringBuilder whole = new StringBuilder("goes 1");
        while (whole.length() < 142) {
            whole.append("+1");
        }
        check.due(4, "160 bytes", Check.text(x, whole + ";hits 5; soft 0 ; "), 3);
        check.due(4, "five open", Check.text(x, "goes(((((1-1)))))-(1);hits 5;soft 0;"), 4);
        check.due(4, "a sixth open", Check.text(x, "goes not(-(-(1)));hits 5;soft 0;"), -112);
        check.due(4, "five of all three open", Check.text(x, "goes not(-(-1))or not not 1;hits-----1;soft 0;"), 5);
        x.feed(1, '?', 0, 0, 0, 0);
        check.due(4, "a seventh TEXT, ahead of its FAULT", x.text(), -4);
        check.due(4, "the tape stays", x.count(5), 1);
    }

    private static void faults() {
        fault("", 0);
        fault("   \n", 4);
        fault("goes", 4);
        fault("goes  ", 6);
        fault("goes ;", 5);
        fault("hits 1", 0);
        fault("goes goes", 5);
        fault("goes or", 5);
        fault("goes 1 hits", 7);
        fault("goes 1 ; soft", 9);
        fault("goes 1 ; hits 5 ; soft 0", 24);
        fault("goes 1 ; hits 5 ; soft 0 ;;", 26);
        fault("goes 1 ; hits 5 ; soft 0 ; up", 27);
        fault("goes 1 ; hits 5 ; soft 0 ; A", 27);
        fault("goes felts ;", 5);
        fault("goes fel ;", 5);
        fault("goesfelt ;", 0);
        fault("goes Felt", 5);
        fault("goes 9999+12345 ;", 10);
        fault("goes 00001;", 5);
        fault("goes 123456789012;", 5);
        fault("goes 1A", 6);
        fault("goes\t1", 4);
        fault("goes 1 2", 7);
        fault("goes 1 felt", 7);
        fault("goes 1 < 2 < 3", 11);
        fault("goes 1 = 2 = 3", 11);
        fault("goes 1 = not 1", 9);
        fault("goes 1 + not 1", 9);
        fault("goes 1 not 1", 7);
        fault("goes 1 or ;", 10);
        fault("goes 1 and ;", 11);
        fault("goes 1 * ;", 9);
        fault("goes 1 + ;", 9);
        fault("goes ( 1 ;", 9);
        fault("goes ( ) ;", 7);
        fault("goes 1 ) ;", 7);
        fault("goes (((((( 1", 10);
        fault("goes - - - - - - 1", 15);
        fault("goes not not not not not not 1", 25);
        fault("goes not ( not - ( - 1", 19);
        fault("goes not ( not - ( not 1", 19);
        fault("goes not ( not - ( ( 1", 19);
        fault("goes (((((1))))) + ((((((", 24);
        fault("goes (((((1 - -", 14);
    }

    private static void fault(String text, int place) {
        check.due(4, "text() of \"" + text + "\"", Check.text(new HatsInRing(), text), -100 - place);
    }

    private static void sayings() {
        said("felt", 40);
        said("pride", 12);
        said("round", 30);
        said("up", 2);
        said("blows", 9);
        said("more", 7);
        said("0012", 12);
        said("1+2*3", 7);
        said("(1+2)*3", 9);
        said("10-4-3", 3);
        said("10-(4-3)", 9);
        said("2*3*4", 24);
        said("-5", -5);
        said("--5", 5);
        said("-2*3", -6);
        said("2*-3", -6);
        said("-felt+pride", -28);
        said("3<4", 1);
        said("4<4", 0);
        said("5<4", 0);
        said("4=4", 1);
        said("3=4", 0);
        said("1+2<2+2", 1);
        said("2+2=2*2", 1);
        said("not 0", 1);
        said("not 5", 0);
        said("not not 5", 1);
        said("not 1=2", 1);
        said("not 0+5", 0);
        said("2 or 0", 1);
        said("0 or 7", 1);
        said("0 or 0", 0);
        said("0 or 0 or 3", 1);
        said("2 and 3", 1);
        said("2 and 0", 0);
        said("0 and 2", 0);
        said("1 and 2 and 0", 0);
        said("1 or 0 and 0", 1);
        said("(1 or 0) and 0", 0);
        said("(7)", 7);
        said("not 0 and 0", 0);
        said("1<2 and 2<3", 1);
        said("99", 99);
        said("100", 99);
        said("-100", -99);
        said("9999*9999*9999", -99);
        said("-9999*9999*9999", 99);
        said("(0-1)<1", 1);
    }

    /** What a HAT of MORE 7, FELT 40, PRIDE 12, BLOWS 9 is told in ROUND 30, while 2 of 3 are UP. */
    private static void said(String e, int want) {
        HatsInRing x = byLaw("goes 1;hits 1;soft " + e + ";");
        x.hat(7, 0, 4012);
        x.hat(1, 0, 100);
        x.hat(2, 0, 5);
        x.put(0, 3, 9);
        x.bell(30);
        check.due(6, "soft " + e, x.asks(2, 0), want);
    }

    private static void bounds() {
        HatsInRing x = new HatsInRing();
        x.hat(0, 0, 100);
        x.hat(0, 0, 0);
        check.due(6, "goes by TEXT 0", x.asks(0, 0), 1);
        check.due(6, "hits by TEXT 0", x.asks(1, 1), 5);
        check.due(6, "soft by TEXT 0", x.asks(2, 0), 0);
        check.due(6, "asks(3, 0)", x.asks(3, 0), -1000);
        check.due(6, "asks(-1, 0)", x.asks(-1, 0), -1000);
        check.due(6, "asks(0, 2)", x.asks(0, 2), -1000);
        check.due(6, "asks(0, -1)", x.asks(0, -1), -1000);
        HatsInRing low = byLaw("goes 0-1;hits 0-1;soft 0-100;");
        low.hat(0, 0, 100);
        check.due(6, "goes -1", low.asks(0, 0), 0);
        check.due(9, "goes -1", low.told(0, 6), 0);
        check.due(6, "hits -1", low.asks(1, 0), 0);
        check.due(6, "soft -100", low.asks(2, 0), -99);
        HatsInRing high = byLaw("goes 100;hits 100;soft 100;");
        high.hat(0, 0, 100);
        check.due(6, "goes 100", high.asks(0, 0), 99);
        check.due(9, "goes 100", high.told(0, 6), 1);
        check.due(6, "hits 100", high.asks(1, 0), 99);
        check.due(6, "soft 100", high.asks(2, 0), 99);
        HatsInRing each = byLaw("goes felt;hits pride;soft more;");
        each.hat(3, 0, 2030);
        each.hat(4, 0, 5060);
        check.due(6, "goes of 0", each.asks(0, 0), 20);
        check.due(6, "hits of 1", each.asks(1, 1), 60);
        check.due(6, "soft of 1", each.asks(2, 1), 4);
    }

    private static void forcing() {
        HatsInRing x = new HatsInRing();
        check.due(5, "force(0)", x.force(0), 0);
        check.due(5, "force(1), none yet", x.force(1), -2);
        Check.text(x, "goes 0;hits 7;soft 1;");
        check.due(5, "a TEXT isn't THE LAW by itself", x.count(4), 0);
        check.due(5, "force(1)", x.force(1), 0);
        check.due(5, "force(1) again", x.force(1), 1);
        x.hat(0, 0, 100);
        check.due(5, "hits by TEXT 1", x.asks(1, 0), 7);
        check.due(5, "force(2)", x.force(2), -2);
        check.due(5, "force(-1)", x.force(-1), -2);
        check.due(5, "the law stays", x.count(4), 1);
        check.due(5, "force(0)", x.force(0), 1);
        check.due(5, "hits by TEXT 0", x.asks(1, 0), 5);
    }

    private static void hats() {
        HatsInRing x = new HatsInRing();
        check.due(7, "hat(-1, 0, 0)", x.hat(-1, 0, 0), -2);
        check.due(7, "hat(60, 0, 0)", x.hat(60, 0, 0), -2);
        check.due(7, "hat(0, -1, 0)", x.hat(0, -1, 0), -2);
        check.due(7, "hat(0, 64, 0)", x.hat(0, 64, 0), -2);
        check.due(7, "hat(0, 0, -1)", x.hat(0, 0, -1), -2);
        check.due(7, "hat(0, 0, 10000)", x.hat(0, 0, 10000), -2);
        check.due(7, "none came", x.count(0), 0);
        check.due(7, "hat(59, 63, 9998)", x.hat(59, 63, 9998), 0);
        int[] facts = {63, 99, 98, 0, 5, 9};
        for (int what = 0; what < facts.length; what++) {
            check.due(7, "told(0, " + what + ")", x.told(0, what), facts[what]);
        }
        for (int p = 1; p < 6; p++) {
            check.due(7, "hat(0, 0, 0)", x.hat(0, 0, 0), p);
        }
        check.due(7, "a seventh", x.hat(0, 0, 0), -4);
        check.due(7, "BAD ahead of FULL", x.hat(60, 0, 0), -2);
        check.due(7, "six are there", x.count(0), 6);
    }

    private static void putting() {
        HatsInRing x = new HatsInRing();
        x.hat(12, 5, 4010);
        x.hat(12, 6, 4010);
        int[] was = {5, 40, 10, 0};
        int[] most = {63, 99, 99, 99};
        for (int what = 0; what < 4; what++) {
            check.due(8, "put(0, " + what + ", most)", x.put(0, what, most[what]), was[what]);
            check.due(8, "told(0, " + what + ")", x.told(0, what), most[what]);
            check.due(8, "more than most of " + what, x.put(0, what, most[what] + 1), -7);
            check.due(8, "put(0, " + what + ", -1)", x.put(0, what, -1), -7);
            check.due(8, "put(0, " + what + ", 0)", x.put(0, what, 0), most[what]);
            check.due(8, "told(1, " + what + "), another one", x.told(1, what), what == 0 ? 6 : was[what]);
        }
        check.due(8, "put(0, 4, 1)", x.put(0, 4, 1), -7);
        check.due(8, "put(0, -1, 1)", x.put(0, -1, 1), -7);
        check.due(8, "put(2, 9, 1)", x.put(2, 9, 1), -5);
        check.due(8, "put(-1, 0, 1)", x.put(-1, 0, 1), -5);
        check.due(9, "told(0, 4)", x.told(0, 4), 1);
        check.due(9, "told(0, 5)", x.told(0, 5), 2);
        check.due(9, "told(0, 9)", x.told(0, 9), -7);
        check.due(9, "told(0, -1)", x.told(0, -1), -7);
        check.due(9, "told(2, 9)", x.told(2, 9), -5);
        check.due(9, "told(-1, 0)", x.told(-1, 0), -5);
    }

    /** Whether kinds of MORE 4 GO in ROUND 1 (alike, modulo 3, and below MORE), 2, 4. */
    private static void goings() {
        String[] laws = {"goes 0;hits 1;soft 0;", "goes 1;hits 1;soft 0;"};
        int[] rounds = {1, 2, 4};
        int[][][] due = {
            {{0, 0, 1, 0, 1, 0}, {0, 0, 0, 0, 0, 0}, {0, 0, 1, 0, 1, 0}},
            {{1, 1, 1, 0, 1, 0}, {1, 1, 1, 0, 1, 0}, {1, 1, 1, 1, 1, 0}},
        };
        for (int law = 0; law < 2; law++) {
            HatsInRing x = byLaw(laws[law]);
            for (int kind = 0; kind < 6; kind++) {
                x.hat(10 * kind + 4, kind, kind == 0 ? 0 : 100);
            }
            for (int r = 0; r < 3; r++) {
                x.bell(rounds[r]);
                for (int kind = 0; kind < 6; kind++) {
                    check.due(9, laws[law] + " kind " + kind + " in round " + rounds[r], x.told(kind, 6), due[law][r][kind]);
                }
            }
        }
    }

    private static void nearests() {
        HatsInRing x = new HatsInRing();
        x.hat(0, 27, 100);
        check.due(9, "NEAREST of one alone", x.told(0, 7), -1);
        x.hat(0, 36, 100);
        x.hat(0, 29, 100);
        x.hat(0, 25, 100);
        check.due(9, "of like ones the first", x.told(0, 7), 1);
        check.due(9, "NEAREST of 3", x.told(3, 7), 0);
        x.put(1, 1, 0);
        check.due(9, "no FLAT one", x.told(0, 7), 2);
        check.due(9, "of a FLAT one", x.told(1, 7), 0);
        x.put(3, 0, 27);
        check.due(9, "AT the same PLACE", x.told(0, 7), 3);
        x.put(3, 0, 63);
        x.put(2, 0, 0);
        check.due(9, "COLUMNS and ROWS together", x.told(0, 7), 2);
    }

    private static void softs() {
        HatsInRing x = byLaw("goes 1;hits 1;soft 4;");
        int[] due = {4, 1, 4, 1, 7, 15};
        for (int kind = 0; kind < 6; kind++) {
            x.hat(10 * kind + 3, 0, kind % 2 * 100);
            check.due(9, "SOFT of kind " + kind, x.told(kind, 8), 1000 + due[kind]);
        }
        HatsInRing low = byLaw("goes 1;hits 1;soft -50;");
        low.hat(53, 0, 100);
        check.due(9, "SOFT below 0", low.told(0, 8), 1000 - 150 + 3);
    }

    /** How hard each kind, of MORE 3, HITS each kind where the text says 10. */
    private static void hits() {
        int[][] even = {
            {10, 10, 10, 10, 10, 10}, {13, 13, 13, 13, 13, 13}, {10, 20, 10, 10, 10, 10},
            {13, 13, 13, 13, 13, 13}, {11, 21, 11, 11, 11, 0}, {10, 10, 10, 10, 10, 10},
        };
        HatsInRing x = byLaw("goes 1;hits 10;soft 0;");
        x.hat(0, 0, 100);
        x.hat(0, 0, 100);
        for (int kind = 0; kind < 6; kind++) {
            for (int other = 0; other < 6; other++) {
                HatsInRing y = byLaw("goes 1;hits 10;soft 0;");
                y.hat(10 * kind + 3, 0, 100);
                y.hat(10 * other + 3, 0, 100);
                check.due(10, "kind " + kind + " HITS " + other, y.duel(0, 1, 0), even[kind][other]);
                y.bell(7);
                check.due(10, "kind " + kind + " HITS " + other + " in round 7", y.duel(0, 1, 0),
                    kind == 3 ? 1 : even[kind][other]);
            }
        }
    }

    private static void duels() {
        HatsInRing x = byLaw("goes 1;hits 30;soft pride;");
        x.hat(0, 9, 9910);
        x.hat(0, 20, 9950);
        check.due(10, "BLOW", x.duel(1, 0, 1), 20);
        check.due(10, "BLOW below 0", x.duel(0, 1, 1), 0);
        check.due(10, "FAR", x.duel(0, 1, 2), 4);
        check.due(10, "FAR, the other way", x.duel(1, 0, 2), 4);
        x.put(1, 0, 10);
        x.put(0, 0, 3);
        check.due(10, "FAR by a COLUMN and a ROW", x.duel(0, 1, 2), 2);
        x.put(0, 0, 63);
        x.put(1, 0, 0);
        check.due(10, "as FAR as can be", x.duel(0, 1, 2), 14);
        x.put(1, 0, 63);
        x.round();
        x.put(1, 1, 0);
        x.put(0, 0, 62);
        check.due(10, "TALLY of 0 and 1", x.duel(0, 1, 3), 1);
        check.due(10, "TALLY of 1 and 0", x.duel(1, 0, 3), 1);
        check.due(10, "duel(0, 0, 0)", x.duel(0, 0, 0), -5);
        check.due(10, "duel(0, 2, 0)", x.duel(0, 2, 0), -5);
        check.due(10, "duel(2, 0, 0)", x.duel(2, 0, 0), -5);
        check.due(10, "duel(-1, 0, 9)", x.duel(-1, 0, 9), -5);
        check.due(10, "duel(0, -1, 0)", x.duel(0, -1, 0), -5);
        check.due(10, "duel(0, 1, 4)", x.duel(0, 1, 4), -7);
        check.due(10, "duel(0, 1, -1)", x.duel(0, 1, -1), -7);
        HatsInRing hard = byLaw("goes 1;hits 99;soft -99;");
        hard.hat(9, 0, 9900);
        hard.hat(20, 0, 9900);
        hard.hat(40, 0, 9900);
        hard.hat(19, 0, 9900);
        check.due(10, "BLOW above 99", hard.duel(0, 1, 1), 99);
        check.due(10, "HITS above 99", hard.duel(2, 3, 0), 199);
    }
}
