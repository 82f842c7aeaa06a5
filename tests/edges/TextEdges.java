/** "Terms", TEXT to FAULT. */
final class TextEdges {
    private static final String TAIL = ";hits 5;soft 0;";
    private final Edge edge;

    TextEdges(Edge edge) {
        this.edge = edge;
    }

    void test() {
        tape();
        tokens();
        words();
        numbers();
        signs();
        blanks();
        grammar();
        operators();
        names();
        wrapping();
        truths();
        firstToken();
        tooEarly();
        noTokens();
        open();
        closed();
        texts();
        textNought();
        bounds();
    }

    private void fault(String text, int place) {
        edge.due("text() of \"" + text.replace("\n", "\\n") + "\"", Check.text(new HatsInRing(), text), -100 - place);
    }

    private void reads(String text) {
        edge.due("text() of \"" + text.replace("\n", "\\n") + "\"", Check.text(new HatsInRing(), text), 1);
    }

    /** What "soft E" says of a HAT of MORE 7, FELT 40, PRIDE 12, BLOWS 9 in ROUND 30, 2 of 3 being UP. */
    private void says(String e, int due) {
        HatsInRing x = Edge.by("goes 1;hits 5;soft " + e + ";", 7, 0, 4012, 1, 0, 100, 2, 0, 5);
        x.put(0, 3, 9);
        x.bell(30);
        edge.due("soft " + e, x.asks(2, 0), due);
    }

    private static String blanksTo(String text, int size) {
        StringBuilder all = new StringBuilder(text);
        while (all.length() < size) {
            all.append(' ');
        }
        return all.toString();
    }

    private void tape() {
        edge.of("TEXT", "A TEXT is read from THE TAPE (160 bytes at most)");
        StringBuilder long160 = new StringBuilder("goes 1");
        while (long160.length() < 144) {
            long160.append("*1");
        }
        HatsInRing x = new HatsInRing();
        edge.due("160 bytes", Check.text(x, long160 + ";hits 51;soft 7;"), 1);
        x.hat(0, 0, 100);
        x.force(1);
        edge.due("all of them are read", x.asks(0, 0) * 10000 + x.asks(1, 0) * 100 + x.asks(2, 0), 15107);
        edge.due("161 bytes", Check.text(new HatsInRing(), long160 + ";hits 51;soft 7; "), Edge.LEAST);
        edge.due("no bytes", new HatsInRing().text(), -100);
        HatsInRing y = new HatsInRing();
        edge.due("a shorter one behind a longer one", Check.text(y, "goes 1;hits 1;soft 1;soft 1;soft 1;"), -121);
        edge.due("a shorter one behind a longer one", Check.text(y, "goes 1;hits 1;soft 1;"), 1);
    }

    private void tokens() {
        edge.of("TOKENS", "TOKENS, each as long as can be");
        reads("goes1;hits5;soft0;");
        reads("goes 1or 1and 1=1or not 1;hits 5;soft 0;");
        fault("goesup;hits 5;soft 0;", 0);
        fault("goes 1 orup;hits 5;soft 0;", 7);
        fault("goes upup;hits 5;soft 0;", 5);
        fault("goes notup;hits 5;soft 0;", 5);
        fault("goes 12345;hits 5;soft 0;", 5);
        fault("goes 1;hits 5;softsoft 0;", 14);
        spelt("", "goes");
        spelt("goes 1;", "hits");
        spelt("goes 1;hits 1;", "soft");
        spelt("goes 1 ", "or", "and");
        spelt("goes ", "not", "felt", "pride", "round", "up", "blows", "more");
    }

    /** With any one letter otherwise, or one more, a WORD is none of these. */
    private void spelt(String ahead, String... words) {
        for (String word : words) {
            fault(ahead + word, ahead.length() + word.length());
            fault(ahead + word + "s", ahead.length());
            fault(ahead + "s" + word, ahead.length());
            for (int i = 0; i < word.length(); i++) {
                fault(ahead + word.substring(0, i) + "x" + word.substring(i + 1), ahead.length());
                fault(ahead + word.substring(0, i) + word.substring(i + 1), ahead.length());
            }
        }
    }

    private void words() {
        edge.of("TOKENS", "WORDS (as many letters a .. z as stand there)");
        fault("a", 0);
        fault("z", 0);
        fault("goes zaz;", 5);
        fault("goes fel;", 5);
        fault("goes feltz;", 5);
        fault("goes f;", 5);
        fault("goes `felt;", 5);
        fault("goes felt`;", 9);
        fault("goes felt{;", 9);
        fault("goes FELT;", 5);
        fault("goes feLt;", 5);
        fault("goes felt" + (char) 233 + ";", 9);
        reads("goes felt;hits pride;soft blows;");
    }

    private void numbers() {
        edge.of("TOKENS", "NUMBERS (as many digits as stand there; more than 4 are too long)");
        says("9-0", 9);
        says("0009", 9);
        says("0000", 0);
        says("9999-9950", 49);
        says("9999", 99);
        fault("goes 10000;", 5);
        fault("goes 00000;", 5);
        fault("goes 00001;", 5);
        fault("goes 99999999999999999999;", 5);
        fault("goes 1 2;", 7);
        fault("goes 1/;", 6);
        fault("goes 9:;", 6);
    }

    private void signs() {
        edge.of("TOKENS", "SIGNS ( ) ; + - * < = ; blanks");
        reads("goes (1)+1-1*1<1;hits 1=1;soft 0;");
        for (int sign = 1; sign < 256; sign++) {
            boolean any = sign >= 'a' && sign <= 'z' || sign >= '0' && sign <= '9' || sign == ' ' || sign == '\n';
            boolean ahead = sign == '(' || sign == '-' || any;
            boolean behind = "+-*<=;".indexOf(sign) >= 0 || any;
            if (!ahead) {
                fault("goes " + (char) sign + "1", 5);
            }
            if (!behind) {
                fault("goes 1" + (char) sign + "1", 6);
            }
        }
        edge.due("byte 0", faultOf(0), -106);
        edge.due("byte 255", faultOf(255), -106);
    }

    private static int faultOf(int sign) {
        HatsInRing x = new HatsInRing();
        x.feed(5, 'g', 'o', 'e', 's', ' ');
        x.feed(2, '1', sign, 0, 0, 0);
        return x.text();
    }

    private void blanks() {
        edge.of("TOKENS", "blanks (32, 10) may stand between");
        reads("  \n goes\n1 \n;\nhits 5 ;  soft\n\n0 ; \n");
        fault("go es 1;", 0);
        fault("goes 1 1;", 7);
        fault("goes fe lt;", 5);
        for (int blank : new int[] {9, 11, 12, 13, 31, 33, 160}) {
            fault("goes" + (char) blank + "1;hits 5;soft 0;", 4);
        }
        edge.due("byte 0 is no blank", faultOf(0), -106);
    }

    private void grammar() {
        edge.of("TEXT", "TEXT: goes E ; hits E ; soft E ;");
        fault("hits 5;goes 1;soft 0;", 0);
        fault("goes 1;soft 0;hits 5;", 7);
        fault("goes 1 hits 5;soft 0;", 7);
        fault("goes 1;hits 5;", 14);
        fault("goes 1;hits 5;soft 0", 20);
        fault("goes ;hits 5;soft 0;", 5);
        fault("goes 1;hits 5;soft 0;;", 21);
        fault("goes 1;hits 5;soft 0;goes 1;", 21);
        fault("goes 1;hits 5;soft 0;1", 21);
        fault("goes 1;hits 5;soft 0;0", 21);
        fault("goes 1;hits 5;soft 0;up", 21);

        edge.of("TEXT", "NOT: not NOT, or SUM, perhaps < or = and a SUM.");
        reads("goes not not 1<2;hits 5;soft 0;");
        says("1+2<2+2", 1);
        says("1+2=2+2", 0);
        says("not 1<1", 1);
        fault("goes 1<2<3;", 8);
        fault("goes 1=1=1;", 8);
        fault("goes 1<1=1;", 8);
        fault("goes 1=not 1;", 7);
        fault("goes <1;", 5);
        fault("goes 1<;", 7);
        fault("goes 1<=1;", 7);
        fault("goes 1+not 1;", 7);
        fault("goes -not 1;", 6);

        edge.of("TEXT", "ONE: a NUMBER, a NAME, - ONE, ( E )");
        says("-7", -7);
        says("--7", 7);
        says("(1 or 0)", 1);
        says("-(3+4)", -7);
        fault("goes ();", 6);
        fault("goes (1;", 7);
        fault("goes 1);", 6);
        fault("goes +1;", 5);
        fault("goes 1--;", 8);
        fault("goes 1(1);", 6);
        fault("goes soft;", 5);
    }

    private void operators() {
        edge.of("TEXT", "E: AND { or AND }. AND: NOT { and NOT }.");
        says("1 or 1 and 0", 1);
        says("0 and 0 or 1", 1);
        says("0 or 0 or 0 or 4", 1);
        says("1 and 1 and 1 and 0", 0);
        says("5", 5);
        fault("goes 1 or;", 9);
        fault("goes or 1;", 5);
        fault("goes 1 and;", 10);
        fault("goes 1 or or 1;", 10);

        edge.of("TEXT", "SUM: TERM { + or - TERM }. TERM: ONE { * ONE }.");
        says("20-5-4-3", 8);
        says("20-5+4-3", 16);
        says("2+3*4", 14);
        says("2*3+4", 10);
        says("2*3*4", 24);
        says("2*-3*-4", 24);
        fault("goes 1+;", 7);
        fault("goes 1*;", 7);
        fault("goes *1;", 5);
        fault("goes 1+*1;", 7);
    }

    private void names() {
        edge.of("TEXT", "NAMES: felt pride round up blows more");
        says("felt", 40);
        says("pride", 12);
        says("round", 30);
        says("up", 2);
        says("blows", 9);
        says("more", 7);
        fault("goes kind;", 5);
        fault("goes place;", 5);
        fault("goes tally;", 5);

        edge.of("TEXT", "felt: FELT; pride: PRIDE; round: ROUND; up: how many HATS are UP; blows: BLOWS; more: MORE.");
        HatsInRing least = Edge.by("goes felt+pride+blows+more+up;hits round;soft up;", 0, 0, 0);
        edge.due("all least", least.asks(0, 0) + least.asks(1, 0) + least.asks(2, 0), 0);
        HatsInRing most = Edge.by("goes felt+pride+blows+more-300;hits round-950;soft up;", 9, 0, 9999, 0, 0, 100, 0, 0, 100, 0, 0, 100,
            0, 0, 100, 0, 0, 100);
        most.put(0, 3, 99);
        most.bell(999);
        edge.due("99 + 99 + 99 + 9 - 300", most.asks(0, 0), 6);
        edge.due("999 - 950", most.asks(1, 0), 49);
        edge.due("six are UP", most.asks(2, 0), 6);
        most.put(5, 1, 0);
        edge.due("five are UP", most.asks(2, 0), 5);
        edge.due("five are UP, for one that is FLAT", most.asks(2, 5), 5);
    }

    /** 2147483647 and what is about it, by NUMBERS of 4 digits. */
    private void wrapping() {
        edge.of("TEXT", "An E is an int (32 bits, wrapping)");
        String most = "(9999*9999*21+4790*9999+8416)";
        says(most, 99);
        says(most + "+1", -99);
        says(most + "+1<0", 1);
        says("-" + most + "-1<0", 1);
        says("-" + most + "-2", 99);
        says("-(" + most + "+1)", -99);
        says("-(" + most + "+1)=" + most + "+1", 1);
        says(most + "*2", -2);
        says(most + "-" + most, 0);
        says("-" + most + "-1<1", 1);
        says(most + "<-1", 0);
        says("-1<" + most, 1);
        says("1<-" + most + "-1", 0);
        says(most + "=-1", 0);
        says("4096*4096*256", 0);
        says("4096*4096*256+7", 7);
        says("4096*4096*128", -99);
        says("4096*4096*127", 99);
        says("0-4096*4096*128=4096*4096*128", 1);
        HatsInRing x = Edge.by("goes 4096*4096*256;hits 4096*4096*256+3;soft 1;", 0, 0, 100);
        edge.due("goes: 0", x.told(0, 6), 0);
        edge.due("hits: 3", x.asks(1, 0), 3);
    }

    private void truths() {
        edge.of("TEXT", "of or, and, not, <, = 1 or 0 (what is not 0 is true)");
        says("2 and 4", 1);
        says("2 and 0", 0);
        says("0 and 2", 0);
        says("0 and 0", 0);
        says("6 or 9", 1);
        says("0 or 9", 1);
        says("9 or 0", 1);
        says("0 or 0", 0);
        says("-1 and -1", 1);
        says("-1 or 0", 1);
        says("not -1", 0);
        says("not 2", 0);
        says("not 0", 1);
        says("not not 9", 1);
        says("3<4", 1);
        says("4<4", 0);
        says("5<4", 0);
        says("-5<4", 1);
        says("4=4", 1);
        says("4=5", 0);
        says("(3<4)+(4=4)+(not 0)+(7 or 7)+(7 and 7)", 5);
    }

    private void firstToken() {
        edge.of("FAULT", "the place of the first byte of the first TOKEN that can't stand there");
        fault("1", 0);
        fault(";", 0);
        fault("soft", 0);
        fault("goes 1 ? 2", 7);
        fault("goes 1 2 ?", 7);
        fault("goes 1 blows ?", 7);
        fault("goes 1\n\n  hits", 10);
        fault("goes ? ?", 5);
        fault(blanksTo("goes 1;hits 5;soft 0;", 159) + "?", 159);
        fault(blanksTo("goes 1;hits 5;soft 0;", 155) + "blows", 155);
    }

    private void tooEarly() {
        edge.of("FAULT", "(the text's size, if it ends too early)");
        String text = "goes 1 ;hits ( 5 ) ;soft - 0 ;";
        for (int size = 0; size < text.length(); size++) {
            boolean inWord = size > 0 && Character.isLetter(text.charAt(size - 1)) && Character.isLetter(text.charAt(size));
            if (!inWord) {
                fault(text.substring(0, size), size);
            }
        }
        reads(text);
        fault(" ", 1);
        fault("\n\n\n", 3);
        fault("goes 1   ", 9);
        fault(blanksTo("", 160), 160);
        fault(blanksTo("goes 1", 160), 160);
        fault(blanksTo("", 154) + "goes 1", 160);
        fault(blanksTo("", 156) + "goes", 160);
        fault(blanksTo("goes", 156) + "9999", 160);
        after("goes 99999", "goes 9", 6);
        after("goes blowsx", "goes blows", 10);
        after("goes 1;;", "goes 1", 6);
        after("goes 1;hits 1;soft 1;;", "goes 1;hits 1;soft 1", 20);
        fault("goes not", 8);
        fault("goes 1 and", 10);
        fault("goes (", 6);
    }

    /** Of a longer text nothing is left on THE TAPE. */
    private void after(String longer, String text, int place) {
        HatsInRing x = new HatsInRing();
        edge.due("text() of \"" + longer + "\"", Check.text(x, longer) < -100 ? 1 : 0, 1);
        edge.due("text() of \"" + text + "\" behind it", Check.text(x, text), -100 - place);
    }

    private void noTokens() {
        edge.of("FAULT", "also of a byte that begins none, of a WORD that is neither KEY nor NAME, a NUMBER that is too long");
        fault("?", 0);
        fault("goes 1;hits 5;soft 0;?", 21);
        fault("goes 1 ? ", 7);
        fault("goes 1;hits 5;soft 0; even", 22);
        fault("goes even", 5);
        fault("even goes", 0);
        fault("goes 1 xor 1", 7);
        fault("goes 12345", 5);
        fault("goes 1+12345", 7);
        fault("goes 1;hits 5;soft 12345;", 19);
        fault("12345", 0);
    }

    private void open() {
        edge.of("FAULT", "a ( , a not, a - ahead of a ONE while 5 of these are open");
        reads("goes (((((1)))))" + TAIL);
        reads("goes -----1" + TAIL);
        reads("goes not not not not not 1" + TAIL);
        reads("goes not(not(-1))" + TAIL);
        reads("goes (((((1-1)))))" + TAIL);
        reads("goes 1------1" + TAIL);
        fault("goes ((((((1))))))" + TAIL, 10);
        fault("goes ------1" + TAIL, 10);
        fault("goes not not not not not not 1" + TAIL, 25);
        fault("goes (((((not 1)))))" + TAIL, 10);
        fault("goes (((((-1)))))" + TAIL, 10);
        fault("goes -----(1)" + TAIL, 10);
        fault("goes not not not not not (1)" + TAIL, 25);
        fault("goes not not not not not -1" + TAIL, 25);
        fault("goes not(not(-(1)))" + TAIL, 14);
        fault("goes 1-------1" + TAIL, 12);
        fault("goes 1;hits ((((((1" + TAIL, 17);
        fault("goes 1;hits 5;soft ------1;", 24);
    }

    private void closed() {
        edge.of("FAULT", "(a ( till its ) , not and - till what they belong to ends)");
        reads("goes (((((1)))))+(((((1)))))" + TAIL);
        reads("goes ((((1))+((1))+(((1)))))" + TAIL);
        reads("goes -----1*-----1--(-1)" + TAIL);
        reads("goes ((((-1*(1)))))" + TAIL);
        reads("goes -----1;hits -----1;soft -----1;");
        reads("goes (((((1)))));hits (((((1)))));soft (((((1)))));");
        reads("goes not not not not not 1 and (((((1)))))" + TAIL);
        reads("goes not not not not not 1 or not not not not not 1" + TAIL);
        fault("goes (((((1+(1" + TAIL, 12);
        fault("goes (((((1)+((" + TAIL, 14);
        fault("goes not not not not not 1+(1)" + TAIL, 27);
        fault("goes not not not not not 1*-1" + TAIL, 27);
        fault("goes not not not not not 1=(1)" + TAIL, 27);
        fault("goes not not not not not 1<-1" + TAIL, 27);
        fault("goes ((((not 1*(1)))))" + TAIL, 15);
        fault("goes -(((((1" + TAIL, 10);
    }

    private void texts() {
        edge.of("TEXT", "TEXTS are numbered from 0 on, 6 at most");
        HatsInRing x = Edge.ring(0, 0, 100);
        for (int t = 1; t < 6; t++) {
            edge.due("force(" + t + ")", x.force(t), -2);
            edge.due("text()", Check.text(x, "goes 1;hits " + t + ";soft 0;"), t);
            edge.due("count(3)", x.count(3), t + 1);
        }
        edge.due("a seventh", Check.text(x, "goes 1;hits 6;soft 0;"), -4);
        edge.due("count(3)", x.count(3), 6);
        edge.due("force(6)", x.force(6), -2);
        int[] hits = {5, 1, 2, 3, 4, 5};
        for (int t = 5; t >= 0; t--) {
            x.force(t);
            edge.due("hits by TEXT " + t, x.asks(1, 0), hits[t]);
        }
    }

    private void textNought() {
        edge.of("TEXT", "TEXT 0, at first, and THE LAW: goes 1 ; hits 5 ; soft 0 ;");
        HatsInRing x = Edge.ring(0, 0, 0);
        edge.due("count(3)", x.count(3), 1);
        edge.due("count(4)", x.count(4), 0);
        edge.due("goes", x.asks(0, 0), 1);
        edge.due("hits", x.asks(1, 0), 5);
        edge.due("soft", x.asks(2, 0), 0);
        edge.due("force(0)", x.force(0), 0);
    }

    private void bounds() {
        edge.of("TEXT", "(goes, hits 0 .. 99, soft -99 .. 99, else the bound; goes: so, if that isn't 0)");
        int[][] due = {{0, 0, 0}, {-1, 0, -1}, {1, 1, 1}, {98, 98, 98}, {99, 99, 99}, {100, 99, 99}, {9999, 99, 99}, {-98, 0, -98},
            {-99, 0, -99}, {-100, 0, -99}, {-9999, 0, -99}};
        for (int[] d : due) {
            HatsInRing x = Edge.by("goes " + d[0] + ";hits " + d[0] + ";soft " + d[0] + ";", 0, 0, 100, 0, 0, 100);
            edge.due("goes " + d[0], x.asks(0, 0), d[1]);
            edge.due("hits " + d[0], x.asks(1, 0), d[1]);
            edge.due("soft " + d[0], x.asks(2, 0), d[2]);
            edge.due("one GOES, goes " + d[0], x.told(0, 6), d[1] == 0 ? 0 : 1);
            edge.due("one HITS, hits " + d[0], x.duel(0, 1, 0), d[1]);
            edge.due("one is SOFT, soft " + d[0], x.told(0, 8), 1000 + d[2]);
        }
    }
}
