import java.util.ArrayList;
import java.util.List;
import java.util.function.IntPredicate;
import java.util.function.IntUnaryOperator;
import java.util.function.ToIntFunction;
import java.util.regex.Matcher;
import java.util.regex.Pattern;

/**
 * The document once more, written down without regard to LANGUAGE.md: hats are objects of a tree of
 * classes, texts are trees of functions, the host's refusals are what the machine throws. It is there
 * to be compared with the class on runs of calls.
 */
final class Model {
    static final long NO = HatsInRing.NO;

    // ---- texts

    static final class Fault extends RuntimeException {
        final int place;

        Fault(int place) {
            this.place = place;
        }
    }

    /** A part of a text, given felt, pride, round, up, blows, more. */
    interface Said extends ToIntFunction<int[]> { }

    static final class Grammar {
        static final Pattern TOKENS = Pattern.compile("[a-z]+|[0-9]+|[();+*<=-]|[ \n]+");
        static final List<String> NAMES = List.of("felt", "pride", "round", "up", "blows", "more");
        static final List<String> KEYS = List.of("goes", "hits", "soft", "or", "and", "not");
        final List<String> tokens = new ArrayList<>();
        final List<Integer> starts = new ArrayList<>();
        int at;
        int open;

        Grammar(String text) {
            Matcher matcher = TOKENS.matcher(text);
            int end = 0;
            while (end < text.length() && matcher.find(end) && matcher.start() == end) {
                String token = matcher.group();
                if (!token.isBlank()) {
                    boolean word = Character.isLetter(token.charAt(0));
                    boolean number = Character.isDigit(token.charAt(0));
                    boolean none = word && !NAMES.contains(token) && !KEYS.contains(token)
                        || number && token.length() > 4;
                    tokens.add(none ? "?" : token);
                    starts.add(end);
                }
                end = matcher.end();
            }
            tokens.add(end < text.length() ? "?" : "");
            starts.add(end);
        }

        List<Said> whole() {
            List<Said> parts = new ArrayList<>();
            for (String key : List.of("goes", "hits", "soft")) {
                take(key);
                parts.add(either());
                take(";");
            }
            take("");
            return parts;
        }

        boolean is(String token) {
            return tokens.get(at).equals(token);
        }

        Fault fault() {
            return new Fault(starts.get(at));
        }

        void take(String token) {
            if (!is(token)) {
                throw fault();
            }
            at++;
        }

        void open() {
            if (open == 5) {
                throw fault();
            }
            open++;
            at++;
        }

        Said either() {
            Said left = both();
            while (is("or")) {
                take("or");
                Said a = left;
                Said b = both();
                left = v -> (a.applyAsInt(v) != 0) | (b.applyAsInt(v) != 0) ? 1 : 0;
            }
            return left;
        }

        Said both() {
            Said left = denied();
            while (is("and")) {
                take("and");
                Said a = left;
                Said b = denied();
                left = v -> (a.applyAsInt(v) != 0) & (b.applyAsInt(v) != 0) ? 1 : 0;
            }
            return left;
        }

        Said denied() {
            if (is("not")) {
                open();
                Said a = denied();
                open--;
                return v -> a.applyAsInt(v) == 0 ? 1 : 0;
            }
            Said a = sum();
            if (is("<")) {
                take("<");
                Said b = sum();
                return v -> a.applyAsInt(v) < b.applyAsInt(v) ? 1 : 0;
            }
            if (is("=")) {
                take("=");
                Said b = sum();
                return v -> a.applyAsInt(v) == b.applyAsInt(v) ? 1 : 0;
            }
            return a;
        }

        Said sum() {
            Said left = term();
            while (is("+") || is("-")) {
                int sign = is("+") ? 1 : -1;
                at++;
                Said a = left;
                Said b = term();
                left = v -> a.applyAsInt(v) + sign * b.applyAsInt(v);
            }
            return left;
        }

        Said term() {
            Said left = one();
            while (is("*")) {
                take("*");
                Said a = left;
                Said b = one();
                left = v -> a.applyAsInt(v) * b.applyAsInt(v);
            }
            return left;
        }

        Said one() {
            String token = tokens.get(at);
            if (NAMES.contains(token)) {
                at++;
                int name = NAMES.indexOf(token);
                return v -> v[name];
            }
            if (token.matches("[0-9]+")) {
                at++;
                int number = Integer.parseInt(token);
                return v -> number;
            }
            if (token.equals("-")) {
                open();
                Said a = one();
                open--;
                return v -> -a.applyAsInt(v);
            }
            if (token.equals("(")) {
                open();
                Said a = either();
                take(")");
                open--;
                return a;
            }
            throw fault();
        }
    }

    // ---- hats

    static class Hat {
        int more;
        int place;
        int felt;
        int pride;
        int blows;

        boolean goes(int round, boolean so) {
            return so;
        }

        int hits(int round, Hat other, int so) {
            return so;
        }

        int soft(int so) {
            return so;
        }
    }

    static class Silk extends Hat {
        @Override int hits(int round, Hat other, int so) {
            return so + more;
        }

        @Override int soft(int so) {
            return so - more;
        }
    }

    static class Brown extends Hat {
        @Override boolean goes(int round, boolean so) {
            return super.goes(round, so) || round % 3 == more % 3;
        }

        @Override int hits(int round, Hat other, int so) {
            return other.getClass() == Silk.class ? 2 * so : so;
        }
    }

    static class Top extends Silk {
        @Override boolean goes(int round, boolean so) {
            return super.goes(round, so) && round >= more;
        }

        @Override int hits(int round, Hat other, int so) {
            return round % 2 == 0 ? super.hits(round, other, so) : 1;
        }
    }

    static class Cap extends Brown {
        @Override int hits(int round, Hat other, int so) {
            return other instanceof Scarecrow ? 0 : super.hits(round, other, so) + 1;
        }

        @Override int soft(int so) {
            return so + more;
        }
    }

    static class Scarecrow extends Hat {
        @Override boolean goes(int round, boolean so) {
            return false;
        }

        @Override int soft(int so) {
            return 3 * so + more;
        }
    }

    static final List<Class<? extends Hat>> CLASSES =
        List.of(Hat.class, Silk.class, Brown.class, Top.class, Cap.class, Scarecrow.class);

    static Hat ofKind(int kind) {
        switch (kind) {
            case 0: return new Hat();
            case 1: return new Silk();
            case 2: return new Brown();
            case 3: return new Top();
            case 4: return new Cap();
            default: return new Scarecrow();
        }
    }

    static int kindOf(Hat hat) {
        return CLASSES.indexOf(hat.getClass());
    }

    static Hat like(Hat hat, int kind) {
        Hat copy = ofKind(kind);
        copy.more = hat.more;
        copy.place = hat.place;
        copy.felt = hat.felt;
        copy.pride = hat.pride;
        copy.blows = hat.blows;
        return copy;
    }

    // ---- the ring

    static final class World {
        final List<List<Said>> texts;
        final List<Hat> hats = new ArrayList<>();
        int[][] tally = new int[6][6];
        int round;
        int law;

        World(List<List<Said>> texts) {
            this.texts = texts;
        }

        World copy() {
            World w = new World(texts);
            for (Hat hat : hats) {
                w.hats.add(like(hat, kindOf(hat)));
            }
            for (int p = 0; p < 6; p++) {
                w.tally[p] = tally[p].clone();
            }
            w.round = round;
            w.law = law;
            return w;
        }

        int said(int part, Hat h) {
            int[] names = {h.felt, h.pride, round, Integer.bitCount(up()), h.blows, h.more};
            int v = texts.get(law).get(part).applyAsInt(names);
            return Math.min(99, Math.max(part == 2 ? -99 : 0, v));
        }

        int up() {
            return bits(p -> hats.get(p).felt > 0);
        }

        int bits(IntPredicate test) {
            int bits = 0;
            for (int p = 0; p < hats.size(); p++) {
                if (test.test(p)) {
                    bits += 1 << p;
                }
            }
            return bits;
        }

        int tallies() {
            int sum = 0;
            for (int[] row : tally) {
                for (int v : row) {
                    sum += v;
                }
            }
            return sum;
        }

        boolean goes(int p) {
            return hats.get(p).goes(round, said(0, hats.get(p)) != 0);
        }

        int hits(int p, int q) {
            return Math.max(0, hats.get(p).hits(round, hats.get(q), said(1, hats.get(p))));
        }

        int soft(int p) {
            return hats.get(p).soft(said(2, hats.get(p)));
        }

        int blow(int p, int q) {
            return Math.min(99, Math.max(0, hits(p, q) - soft(q)));
        }

        int far(int p, int q) {
            int a = hats.get(p).place;
            int b = hats.get(q).place;
            return Math.abs(a % 8 - b % 8) + Math.abs(a / 8 - b / 8);
        }

        int nearest(int p) {
            for (int d = 0; d <= 14; d++) {
                for (int q = 0; q < hats.size(); q++) {
                    if (q != p && hats.get(q).felt > 0 && far(p, q) == d) {
                        return q;
                    }
                }
            }
            return -1;
        }

        int play() {
            int flat = 0;
            for (int p = 0; p < hats.size(); p++) {
                Hat one = hats.get(p);
                int q = nearest(p);
                if (one.felt == 0 || q < 0 || !goes(p)) {
                    continue;
                }
                Hat other = hats.get(q);
                if (far(p, q) > 1) {
                    int rows = Integer.compare(other.place / 8, one.place / 8);
                    int columns = Integer.compare(other.place % 8, one.place % 8);
                    one.place += rows != 0 ? 8 * rows : columns;
                    continue;
                }
                other.felt = Math.max(0, other.felt - blow(p, q));
                other.blows = Math.min(99, other.blows + 1);
                tally[p][q] = Math.min(99, tally[p][q] + 1);
                one.pride = Math.min(99, one.pride + 1);
                if (other.felt == 0) {
                    flat |= 1 << q;
                }
            }
            round++;
            return flat;
        }

        World behind(int n) {
            for (int i = 0; i < n; i++) {
                play();
            }
            return this;
        }
    }

    // ---- what is held

    List<List<Said>> texts = new ArrayList<>();
    World ring = new World(texts);
    World image;
    StringBuilder tape = new StringBuilder();
    Object[] sheets = new Object[4];

    Model() {
        texts.add(new Grammar("goes 1 ; hits 5 ; soft 0 ;").whole());
    }

    boolean none(int p) {
        return p < 0 || p >= ring.hats.size();
    }

    static boolean out(int v, int least, int most) {
        return v < least || v > most;
    }

    // ---- the calls

    int count(int what) {
        return what == 0 ? ring.hats.size() : what == 1 ? ring.round : what == 2 ? Integer.bitCount(ring.up())
            : what == 3 ? texts.size() : what == 4 ? ring.law : what == 5 ? tape.length() : -2;
    }

    int feed(int n, int... bytes) {
        boolean bad = out(n, 1, 5);
        for (int b : bytes) {
            bad |= out(b, 0, 255);
        }
        if (bad) {
            return -2;
        }
        if (tape.length() + n > 160) {
            return -4;
        }
        for (int i = 0; i < n; i++) {
            tape.append((char) bytes[i]);
        }
        return tape.length();
    }

    int text() {
        if (texts.size() == 6) {
            return -4;
        }
        String read = tape.toString();
        tape.setLength(0);
        try {
            texts.add(new Grammar(read).whole());
            return texts.size() - 1;
        } catch (Fault fault) {
            return -100 - fault.place;
        }
    }

    int force(int t) {
        if (out(t, 0, texts.size() - 1)) {
            return -2;
        }
        int was = ring.law;
        ring.law = t;
        return was;
    }

    int asks(int part, int p) {
        return out(part, 0, 2) || none(p) ? -1000 : ring.said(part, ring.hats.get(p));
    }

    int hat(int kindMore, int place, int feltPride) {
        if (out(kindMore, 0, 59) || out(place, 0, 63) || out(feltPride, 0, 9999)) {
            return -2;
        }
        if (ring.hats.size() == 6) {
            return -4;
        }
        Hat hat = ofKind(kindMore / 10);
        hat.more = kindMore % 10;
        hat.place = place;
        hat.felt = feltPride / 100;
        hat.pride = feltPride % 100;
        ring.hats.add(hat);
        return ring.hats.size() - 1;
    }

    int put(int p, int what, int v) {
        if (none(p)) {
            return -5;
        }
        if (out(what, 0, 3) || out(v, 0, what == 0 ? 63 : 99)) {
            return -7;
        }
        int was = told(p, what);
        Hat hat = ring.hats.get(p);
        if (what == 0) {
            hat.place = v;
        } else if (what == 1) {
            hat.felt = v;
        } else if (what == 2) {
            hat.pride = v;
        } else {
            hat.blows = v;
        }
        return was;
    }

    int told(int p, int what) {
        if (none(p)) {
            return -5;
        }
        Hat hat = ring.hats.get(p);
        switch (what) {
            case 0: return hat.place;
            case 1: return hat.felt;
            case 2: return hat.pride;
            case 3: return hat.blows;
            case 4: return kindOf(hat);
            case 5: return hat.more;
            case 6: return ring.goes(p) ? 1 : 0;
            case 7: return ring.nearest(p);
            case 8: return ring.soft(p) + 1000;
            default: return -7;
        }
    }

    int duel(int p, int q, int what) {
        if (none(p) || none(q) || p == q) {
            return -5;
        }
        return what == 0 ? ring.hits(p, q) : what == 1 ? ring.blow(p, q) : what == 2 ? ring.far(p, q)
            : what == 3 ? ring.tally[p][q] : -7;
    }

    int round() {
        return ring.round == 999 ? -3 : ring.play();
    }

    int bell(int v) {
        if (out(v, 0, 999)) {
            return -2;
        }
        int was = ring.round;
        ring.round = v;
        return was;
    }

    int run(int n, int what) {
        if (out(n, 0, 60)) {
            return -2;
        }
        World w = ring.copy().behind(n);
        if (what == 0) {
            return w.up();
        }
        if (what == 1) {
            return w.tallies();
        }
        for (int p = 0; p < w.hats.size(); p++) {
            if (what == 10 + p) {
                return w.hats.get(p).place;
            }
            if (what == 20 + p) {
                return w.hats.get(p).felt;
            }
            if (what == 30 + p) {
                return w.hats.get(p).blows;
            }
        }
        return -2;
    }

    int when(int what) {
        if (what != 6 && none(what)) {
            return -5;
        }
        for (int n = 0; n <= 60; n++) {
            World w = ring.copy().behind(n);
            if (what == 6 ? Integer.bitCount(w.up()) < 2 : w.hats.get(what).felt == 0) {
                return n;
            }
        }
        return -1;
    }

    int end(int what) {
        World w = ring.copy();
        int first = -1;
        int when = -1;
        for (int n = 0; n < 60; n++) {
            int flat = w.play();
            if (when < 0 && flat != 0) {
                when = n;
                first = Integer.numberOfTrailingZeros(flat);
            }
        }
        int best = -1;
        for (int felt = 99; felt > 0 && best < 0; felt--) {
            for (int p = 0; p < w.hats.size() && best < 0; p++) {
                best = w.hats.get(p).felt == felt ? p : -1;
            }
        }
        return what == 0 ? best : what == 1 ? best < 0 ? 0 : w.hats.get(best).felt
            : what == 2 ? first : what == 3 ? when : -2;
    }

    int beaten(int p, int what) {
        if (none(p)) {
            return -5;
        }
        if (out(what, 0, 1)) {
            return -7;
        }
        int bits = ring.bits(q -> {
            World w = ring.copy();
            for (int i = 0; i < w.hats.size(); i++) {
                if (i != p && i != q) {
                    w.hats.get(i).felt = 0;
                }
            }
            w.behind(60);
            return q != p && w.hats.get(p).felt > 0 && w.hats.get(q).felt == 0;
        });
        return what == 0 ? bits : Integer.bitCount(bits);
    }

    int toss(int p, int n, int what) {
        if (none(p)) {
            return -5;
        }
        if (out(n, 0, 40) || out(what, 0, 1)) {
            return -7;
        }
        IntUnaryOperator felt = place -> {
            World w = ring.copy();
            w.hats.get(p).place = place;
            return w.behind(n).hats.get(p).felt;
        };
        int best = 0;
        for (int place = 1; place < 64; place++) {
            if (felt.applyAsInt(place) > felt.applyAsInt(best)) {
                best = place;
            }
        }
        return what == 0 ? best : felt.applyAsInt(best);
    }

    int rid(int p, int n, int what) {
        if (none(p)) {
            return -5;
        }
        if (out(n, 0, 40) || out(what, 0, 1)) {
            return -7;
        }
        int most = ring.copy().behind(n).hats.get(p).felt;
        int best = -1;
        for (int q = 0; q < ring.hats.size(); q++) {
            if (q == p || ring.hats.get(q).felt == 0) {
                continue;
            }
            World w = ring.copy();
            w.hats.get(q).felt = 0;
            int felt = w.behind(n).hats.get(p).felt;
            if (felt > most) {
                most = felt;
                best = q;
            }
        }
        return what == 0 ? best : most;
    }

    int lasts(int p, int n) {
        if (none(p)) {
            return -5;
        }
        if (out(n, 0, 40)) {
            return -7;
        }
        for (int felt = 0; felt < 100; felt++) {
            World w = ring.copy();
            w.hats.get(p).felt = felt;
            if (w.behind(n).hats.get(p).felt > 0) {
                return felt;
            }
        }
        return -1;
    }

    static long terms(long above, long below, int part) {
        if (below == 0 || out(part, 0, 1)) {
            return NO;
        }
        long a = above;
        long b = below;
        while (b != 0) {
            long t = a % b;
            a = b;
            b = t;
        }
        return (part == 0 ? above : below) / a;
    }

    long betting(int p, int part) {
        if (none(p)) {
            return NO;
        }
        int all = 0;
        for (Hat hat : ring.hats) {
            all += hat.felt;
        }
        return terms(ring.hats.get(p).felt, all, part);
    }

    static int number(Object row, int i) {
        return row instanceof byte[] ? ((byte[]) row)[i] : row instanceof short[] ? ((short[]) row)[i] : ((int[]) row)[i];
    }

    static int size(Object row) {
        return java.lang.reflect.Array.getLength(row);
    }

    int refused(int s) {
        return out(s, 0, 3) ? -2 : sheets[s] == null ? -11 : size(sheets[s]) > 20 ? -2 : 0;
    }

    int refused(int s, int p) {
        return refused(s) != 0 ? refused(s) : none(p) ? -5 : 0;
    }

    int first(World w, int s, int p) {
        for (int i = 0; i < size(sheets[s]); i++) {
            w.play();
            if (w.hats.get(p).felt != number(sheets[s], i)) {
                return i;
            }
        }
        return -1;
    }

    int judge(int s, int p) {
        return refused(s, p) != 0 ? refused(s, p) : first(ring.copy(), s, p);
    }

    int kinds(int s, int p, int of, int sort) {
        if (refused(s, p) != 0) {
            return refused(s, p);
        }
        if (none(of)) {
            return -6;
        }
        if (out(sort, 0, 1)) {
            return -7;
        }
        int bits = 0;
        for (int v = 0; v < (sort == 0 ? 6 : 10); v++) {
            World w = ring.copy();
            if (sort == 0) {
                w.hats.set(of, like(w.hats.get(of), v));
            } else {
                w.hats.get(of).more = v;
            }
            bits |= first(w, s, p) < 0 ? 1 << v : 0;
        }
        return bits;
    }

    int states(int s, int p, int sort, int what) {
        if (refused(s, p) != 0) {
            return refused(s, p);
        }
        if (out(sort, 1, 2) || out(what, 0, 1)) {
            return -7;
        }
        List<Integer> found = new ArrayList<>();
        for (int v = 0; v < 100; v++) {
            World w = ring.copy();
            if (sort == 1) {
                w.hats.get(p).felt = v;
            } else {
                w.hats.get(p).pride = v;
            }
            if (first(w, s, p) < 0) {
                found.add(v);
            }
        }
        return what == 0 ? found.size() : found.isEmpty() ? -1 : found.get(0);
    }

    long places(int s, int p) {
        if (refused(s, p) != 0) {
            return NO;
        }
        long bits = 0;
        for (int place = 0; place < 64; place++) {
            World w = ring.copy();
            w.hats.get(p).place = place;
            bits |= first(w, s, p) < 0 ? 1L << place : 0;
        }
        return bits;
    }

    int whose(int s) {
        return refused(s) != 0 ? refused(s) : ring.bits(p -> first(ring.copy(), s, p) < 0);
    }

    int laws(int s, int p) {
        if (refused(s, p) != 0) {
            return refused(s, p);
        }
        int bits = 0;
        for (int t = 0; t < texts.size(); t++) {
            World w = ring.copy();
            w.law = t;
            bits |= first(w, s, p) < 0 ? 1 << t : 0;
        }
        return bits;
    }

    int film(int s, int p, int n) {
        if (out(s, 0, 3)) {
            return -2;
        }
        if (none(p)) {
            return -5;
        }
        if (out(n, 0, 20)) {
            return -7;
        }
        byte[] row = new byte[n];
        for (int i = 0; i < n; i++) {
            row[i] = (byte) ring.copy().behind(i + 1).hats.get(p).felt;
        }
        sheets[s] = row;
        return n;
    }

    World byLots(int seed) {
        World w = ring.copy();
        long lot = seed + 1;
        for (Hat hat : w.hats) {
            lot = lot * 48271 % 2147483647;
            hat.place = (int) (lot % 64);
        }
        return w.behind(20);
    }

    int drawn(int seed, int what) {
        if (out(seed, 0, 99999) || out(what, 0, 1)) {
            return -2;
        }
        return what == 0 ? byLots(seed).up() : byLots(seed).tallies();
    }

    long odds(int seed, int seeds, int p, int part) {
        if (out(seed, 0, 99999) || out(seeds, 1, 40) || none(p)) {
            return NO;
        }
        int up = 0;
        for (int i = 0; i < seeds; i++) {
            up += byLots(seed + i).up() >> p & 1;
        }
        return terms(up, seeds, part);
    }

    int image() {
        image = ring.copy();
        return ring.hats.size();
    }

    int back() {
        if (image == null) {
            return -3;
        }
        ring = image.copy();
        return ring.hats.size();
    }

    int sheet(int s, int sort, int n) {
        if (out(s, 0, 3) || out(sort, -1, 2) || sort >= 0 && n > 40) {
            return -2;
        }
        try {
            sheets[s] = sort < 0 ? null : sort == 0 ? new byte[n] : sort == 1 ? new short[n] : new int[n];
            return 1;
        } catch (NegativeArraySizeException e) {
            return -14;
        }
    }

    int cell(int s, int i, int v) {
        if (out(s, 0, 3)) {
            return -2;
        }
        try {
            if (sheets[s] instanceof byte[]) {
                ((byte[]) sheets[s])[i] = (byte) v;
            } else if (sheets[s] instanceof short[]) {
                ((short[]) sheets[s])[i] = (short) v;
            } else {
                ((int[]) sheets[s])[i] = v;
            }
            return 1;
        } catch (NullPointerException e) {
            return -11;
        } catch (ArrayIndexOutOfBoundsException e) {
            return -12;
        }
    }

    int copy(int s, int i, int other, int j, int n) {
        if (out(s, 0, 3) || out(other, 0, 3)) {
            return -2;
        }
        try {
            System.arraycopy(sheets[s], i, sheets[other], j, n);
            return n;
        } catch (NullPointerException e) {
            return -11;
        } catch (ArrayStoreException e) {
            return -13;
        } catch (IndexOutOfBoundsException e) {
            return -12;
        }
    }

    int hatsBy(int s, int sort, int from, int n) {
        if (out(s, 0, 3) || out(sort, 0, 2) || out(n, 0, 6)) {
            return -2;
        }
        if (sheets[s] == null) {
            return -11;
        }
        Class<?> row = sort == 0 ? byte[].class : sort == 1 ? short[].class : int[].class;
        if (sheets[s].getClass() != row) {
            return -13;
        }
        int came = 0;
        try {
            for (int k = 0, at = from; k < n; k++, at += 3) {
                int[] three = {number(sheets[s], at), number(sheets[s], at + 1), number(sheets[s], at + 2)};
                came += hat(three[0], three[1], three[2]) >= 0 ? 1 : 0;
            }
            return came;
        } catch (ArrayIndexOutOfBoundsException e) {
            return -12;
        }
    }

    int taken(int i, int kind) {
        if (out(kind, 0, 6)) {
            return -2;
        }
        Object[] all = new Object[12];
        for (int p = 0; p < ring.hats.size(); p++) {
            all[p] = ring.hats.get(p);
            all[p + 6] = ring.hats.get(p).felt;
        }
        try {
            Object lies = all[i];
            if (lies == null) {
                return -11;
            }
            return kind == 6 ? (Integer) lies : ring.hats.indexOf(CLASSES.get(kind).cast(lies));
        } catch (ArrayIndexOutOfBoundsException e) {
            return -12;
        } catch (ClassCastException e) {
            return -13;
        }
    }
}
