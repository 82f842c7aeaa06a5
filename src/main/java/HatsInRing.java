import java.util.Arrays;

/**
 * Hats thrown into a ring of eight by eight places. What each call promises stands in
 * ../shared/DOC.md, whose words in capitals the names and comments here follow.
 *
 * <p>All rows are made with the object and used again, so that no call makes anything new.
 */
public final class HatsInRing {
    public static final int NONE = -1, BAD = -2, STATE = -3, FULL = -4;
    public static final long NO = -4611686018427387904L;

    private static final int NO_SUCH = -5, NO_SUCH_OF = -6, NOT_TOLD = -7;
    private static final int MISSING = -11, OUTSIDE = -12, UNLIKE = -13, BELOW_ZERO = -14;
    private static final int NO_SAYING = -1000, FAULT = -100;
    private static final int FINE = 0;

    private static final int PLACES = 64, SIDE = 8, HATS = 6, KINDS = 6, MORES = 10;
    private static final int MOST = 99, LAST_ROUND = 999;
    private static final int TEXTS = 6, PARTS = 3, TAPE = 160;
    private static final int SHEETS = 4, SORTS = 3, CELLS = 40, STORY = 20;
    private static final int FIGHT = 60, FORESIGHT = 40;
    private static final int LAST_SEED = 99999, SEEDS = 40, LOT_ROUNDS = 20;
    private static final long LOT_STEP = 48271L, LOT_BOUND = 2147483647L;

    private static final int GOES = 0, HITS = 1, SOFT = 2;
    private static final int PLACE = 0, FELT = 1, PRIDE = 2, BLOWS = 3;
    private static final String FIRST_TEXT = "goes 1 ; hits 5 ; soft 0 ;";

    private final Text[] texts = new Text[TEXTS];
    private final Ring ring = new Ring(texts);
    private final Ring thought = new Ring(texts);
    private final Ring kept = new Ring(texts);
    private final Reader reader = new Reader();
    private final int[] tape = new int[TAPE];
    private final Sheet[] sheets = new Sheet[SHEETS];
    private int textCount;
    private int tapeSize;
    private boolean hasImage;

    public HatsInRing() {
        int[] stack = new int[TAPE];
        for (int t = 0; t < TEXTS; t++) {
            texts[t] = new Text(stack);
        }
        for (int s = 0; s < SHEETS; s++) {
            sheets[s] = new Sheet();
        }
        for (int i = 0; i < FIRST_TEXT.length() && i < TAPE; i++) {
            tape[i] = FIRST_TEXT.charAt(i);
        }
        reader.read(tape, FIRST_TEXT.length(), texts[0]);
        textCount = 1;
    }

    // ---- the ring, the law, hats

    public int count(int what) {
        switch (what) {
            case 0: return ring.size;
            case 1: return ring.round;
            case 2: return ring.upCount();
            case 3: return textCount;
            case 4: return ring.law;
            case 5: return tapeSize;
            default: return BAD;
        }
    }

    public int feed(int n, int a, int b, int c, int d, int e) {
        if (!within(n, 1, 5) || !isByte(a) || !isByte(b) || !isByte(c) || !isByte(d) || !isByte(e)) {
            return BAD;
        }
        if (tapeSize + n > TAPE) {
            return FULL;
        }
        for (int i = 0; i < n; i++) {
            tape[tapeSize] = i == 0 ? a : i == 1 ? b : i == 2 ? c : i == 3 ? d : e;
            tapeSize++;
        }
        return tapeSize;
    }

    public int text() {
        if (textCount >= TEXTS) {
            return FULL;
        }
        int fault = reader.read(tape, tapeSize, texts[textCount]);
        tapeSize = 0;
        if (fault != NONE) {
            return FAULT - fault;
        }
        textCount++;
        return textCount - 1;
    }

    public int force(int t) {
        if (!within(t, 0, textCount - 1)) {
            return BAD;
        }
        int was = ring.law;
        ring.law = t;
        return was;
    }

    public int asks(int part, int p) {
        return within(part, 0, PARTS - 1) && isHat(p) ? texts[ring.law].says(part, ring, p) : NO_SAYING;
    }

    public int hat(int kindMore, int place, int feltPride) {
        if (!within(kindMore, 0, KINDS * MORES - 1) || !within(place, 0, PLACES - 1)
                || !within(feltPride, 0, 9999)) {
            return BAD;
        }
        if (ring.size >= HATS) {
            return FULL;
        }
        ring.add(kindMore, place, feltPride);
        return ring.size - 1;
    }

    public int put(int p, int what, int v) {
        if (!isHat(p)) {
            return NO_SUCH;
        }
        int[] row = ring.rowOf(what);
        if (row == null || !within(v, 0, what == PLACE ? PLACES - 1 : MOST)) {
            return NOT_TOLD;
        }
        int was = row[p];
        row[p] = v;
        return was;
    }

    public int told(int p, int what) {
        if (!isHat(p)) {
            return NO_SUCH;
        }
        int[] row = ring.rowOf(what);
        if (row != null) {
            return row[p];
        }
        switch (what) {
            case 4: return ring.kind[p];
            case 5: return ring.more[p];
            case 6: return ring.goes(p) ? 1 : 0;
            case 7: return ring.nearest(p);
            case 8: return 1000 + ring.soft(p);
            default: return NOT_TOLD;
        }
    }

    public int duel(int p, int q, int what) {
        if (!isHat(p) || !isHat(q) || p == q) {
            return NO_SUCH;
        }
        switch (what) {
            case 0: return ring.hits(p, q);
            case 1: return Ring.blow(ring.hits(p, q), ring.soft(q));
            case 2: return ring.far(p, q);
            case 3: return ring.tally[p * HATS + q];
            default: return NOT_TOLD;
        }
    }

    // ---- rounds

    public int round() {
        return ring.round >= LAST_ROUND ? STATE : ring.play();
    }

    public int bell(int v) {
        if (!within(v, 0, LAST_ROUND)) {
            return BAD;
        }
        int was = ring.round;
        ring.round = v;
        return was;
    }

    public int run(int n, int what) {
        int asked = what / 10;
        int p = what % 10;
        boolean ofAll = what == 0 || what == 1;
        boolean ofOne = within(asked, 1, 3) && isHat(p);
        if (!within(n, 0, FIGHT) || !ofAll && !ofOne) {
            return BAD;
        }
        imagine();
        for (int i = 0; i < n; i++) {
            thought.play();
        }
        switch (asked) {
            case 1: return thought.place[p];
            case 2: return thought.felt[p];
            case 3: return thought.blows[p];
            default: return what == 0 ? thought.upBits() : thought.tallySum();
        }
    }

    public int when(int what) {
        if (!isHat(what) && what != HATS) {
            return NO_SUCH;
        }
        imagine();
        for (int n = 0; n <= FIGHT; n++) {
            if (what == HATS ? thought.upCount() < 2 : thought.felt[what] == 0) {
                return n;
            }
            thought.play();
        }
        return NONE;
    }

    public int end(int what) {
        if (!within(what, 0, 3)) {
            return BAD;
        }
        imagine();
        int firstFlat = 0;
        int itsRound = NONE;
        for (int n = 0; n < FIGHT; n++) {
            int flat = thought.play();
            if (firstFlat == 0 && flat != 0) {
                firstFlat = flat;
                itsRound = n;
            }
        }
        int best = thought.mostFelt();
        switch (what) {
            case 0: return best;
            case 1: return best == NONE ? 0 : thought.felt[best];
            case 2: return lowestBit(firstFlat);
            default: return itsRound;
        }
    }

    // ---- what is best

    public int beaten(int p, int what) {
        if (!isHat(p)) {
            return NO_SUCH;
        }
        if (!within(what, 0, 1)) {
            return NOT_TOLD;
        }
        int bits = 0;
        for (int q = 0; q < ring.size; q++) {
            imagine();
            thought.leaveOnly(p, q);
            if (q != p && feltBehind(p, FIGHT) > 0 && thought.felt[q] == 0) {
                bits |= 1 << q;
            }
        }
        return what == 0 ? bits : Integer.bitCount(bits);
    }

    public int toss(int p, int n, int what) {
        if (!isHat(p)) {
            return NO_SUCH;
        }
        if (!within(n, 0, FORESIGHT) || !within(what, 0, 1)) {
            return NOT_TOLD;
        }
        int best = 0;
        int most = NONE;
        for (int place = 0; place < PLACES; place++) {
            imagine();
            thought.place[p] = place;
            int felt = feltBehind(p, n);
            if (felt > most) {
                most = felt;
                best = place;
            }
        }
        return what == 0 ? best : most;
    }

    public int rid(int p, int n, int what) {
        if (!isHat(p)) {
            return NO_SUCH;
        }
        if (!within(n, 0, FORESIGHT) || !within(what, 0, 1)) {
            return NOT_TOLD;
        }
        imagine();
        int most = feltBehind(p, n);
        int best = NONE;
        for (int q = 0; q < ring.size; q++) {
            if (q != p && ring.felt[q] > 0) {
                imagine();
                thought.felt[q] = 0;
                int felt = feltBehind(p, n);
                if (felt > most) {
                    most = felt;
                    best = q;
                }
            }
        }
        return what == 0 ? best : most;
    }

    public int lasts(int p, int n) {
        if (!isHat(p)) {
            return NO_SUCH;
        }
        if (!within(n, 0, FORESIGHT)) {
            return NOT_TOLD;
        }
        for (int felt = 0; felt <= MOST; felt++) {
            imagine();
            thought.felt[p] = felt;
            if (feltBehind(p, n) > 0) {
                return felt;
            }
        }
        return NONE;
    }

    public long betting(int p, int part) {
        return isHat(p) ? lowestTerms(ring.felt[p], ring.feltSum(), part) : NO;
    }

    // ---- told rounds

    public int judge(int s, int p) {
        int refusal = refusalOf(s, p);
        if (refusal != FINE) {
            return refusal;
        }
        imagine();
        return firstOtherwise(s, p);
    }

    public int kinds(int s, int p, int of, int sort) {
        int refusal = refusalOf(s, p);
        if (refusal != FINE) {
            return refusal;
        }
        if (!isHat(of)) {
            return NO_SUCH_OF;
        }
        if (!within(sort, 0, 1)) {
            return NOT_TOLD;
        }
        int[] row = sort == 0 ? thought.kind : thought.more;
        int bits = 0;
        for (int v = 0; v < (sort == 0 ? KINDS : MORES); v++) {
            imagine();
            row[of] = v;
            if (firstOtherwise(s, p) == NONE) {
                bits |= 1 << v;
            }
        }
        return bits;
    }

    public int states(int s, int p, int sort, int what) {
        int refusal = refusalOf(s, p);
        if (refusal != FINE) {
            return refusal;
        }
        if (!within(sort, 1, 2) || !within(what, 0, 1)) {
            return NOT_TOLD;
        }
        int[] row = sort == 1 ? thought.felt : thought.pride;
        int found = 0;
        int least = NONE;
        for (int v = 0; v <= MOST; v++) {
            imagine();
            row[p] = v;
            if (firstOtherwise(s, p) == NONE) {
                least = found == 0 ? v : least;
                found++;
            }
        }
        return what == 0 ? found : least;
    }

    public long places(int s, int p) {
        if (refusalOf(s, p) != FINE) {
            return NO;
        }
        long bits = 0;
        for (int place = 0; place < PLACES; place++) {
            imagine();
            thought.place[p] = place;
            if (firstOtherwise(s, p) == NONE) {
                bits |= 1L << place;
            }
        }
        return bits;
    }

    public int whose(int s) {
        int refusal = refusalOf(s);
        if (refusal != FINE) {
            return refusal;
        }
        int bits = 0;
        for (int p = 0; p < ring.size; p++) {
            imagine();
            if (firstOtherwise(s, p) == NONE) {
                bits |= 1 << p;
            }
        }
        return bits;
    }

    public int laws(int s, int p) {
        int refusal = refusalOf(s, p);
        if (refusal != FINE) {
            return refusal;
        }
        int bits = 0;
        for (int t = 0; t < textCount; t++) {
            imagine();
            thought.law = t;
            if (firstOtherwise(s, p) == NONE) {
                bits |= 1 << t;
            }
        }
        return bits;
    }

    public int film(int s, int p, int n) {
        if (!isSheet(s)) {
            return BAD;
        }
        if (!isHat(p)) {
            return NO_SUCH;
        }
        if (!within(n, 0, STORY)) {
            return NOT_TOLD;
        }
        sheets[s].become(Sheet.BYTES, n);
        imagine();
        for (int i = 0; i < n; i++) {
            thought.play();
            sheets[s].row[i] = thought.felt[p];
        }
        return n;
    }

    // ---- rings by lots

    public int drawn(int seed, int what) {
        if (!within(seed, 0, LAST_SEED) || !within(what, 0, 1)) {
            return BAD;
        }
        imagineDrawn(seed);
        return what == 0 ? thought.upBits() : thought.tallySum();
    }

    public long odds(int seed, int seeds, int p, int part) {
        if (!within(seed, 0, LAST_SEED) || !within(seeds, 1, SEEDS) || !isHat(p)) {
            return NO;
        }
        int up = 0;
        for (int i = 0; i < seeds; i++) {
            imagineDrawn(seed + i);
            if (thought.felt[p] > 0) {
                up++;
            }
        }
        return lowestTerms(up, seeds, part);
    }

    public int image() {
        kept.become(ring);
        hasImage = true;
        return ring.size;
    }

    public int back() {
        if (!hasImage) {
            return STATE;
        }
        ring.become(kept);
        return ring.size;
    }

    // ---- the host

    public int sheet(int s, int sort, int n) {
        boolean away = sort == Sheet.AWAY;
        if (!isSheet(s) || !away && !isSort(sort) || !away && n > CELLS) {
            return BAD;
        }
        if (!away && n < 0) {
            return BELOW_ZERO;
        }
        sheets[s].become(sort, away ? 0 : n);
        return 1;
    }

    public int cell(int s, int i, int v) {
        if (!isSheet(s)) {
            return BAD;
        }
        if (sheets[s].isMissing()) {
            return MISSING;
        }
        if (!within(i, 0, sheets[s].size - 1)) {
            return OUTSIDE;
        }
        sheets[s].write(i, v);
        return 1;
    }

    public int copy(int s, int i, int other, int j, int n) {
        if (!isSheet(s) || !isSheet(other)) {
            return BAD;
        }
        Sheet from = sheets[s];
        Sheet to = sheets[other];
        if (from.isMissing() || to.isMissing()) {
            return MISSING;
        }
        if (from.sort != to.sort) {
            return UNLIKE;
        }
        if (n < 0 || !within(i, 0, from.size - n) || !within(j, 0, to.size - n)) {
            return OUTSIDE;
        }
        System.arraycopy(from.row, i, to.row, j, n);
        return n;
    }

    public int hatsBy(int s, int sort, int from, int n) {
        if (!isSheet(s) || !isSort(sort) || !within(n, 0, HATS)) {
            return BAD;
        }
        Sheet list = sheets[s];
        if (list.isMissing()) {
            return MISSING;
        }
        if (list.sort != sort) {
            return UNLIKE;
        }
        int came = 0;
        for (int k = 0; k < n; k++) {
            // "from" is looked at ahead of the sum, which could wrap.
            int at = within(from, 0, list.size) ? from + 3 * k : NONE;
            if (!within(at, 0, list.size - 3)) {
                return OUTSIDE;
            }
            if (hat(list.row[at], list.row[at + 1], list.row[at + 2]) >= 0) {
                came++;
            }
        }
        return came;
    }

    public int taken(int i, int kind) {
        if (!within(kind, 0, KINDS)) {
            return BAD;
        }
        if (!within(i, 0, 2 * HATS - 1)) {
            return OUTSIDE;
        }
        int p = i % HATS;
        if (!isHat(p)) {
            return MISSING;
        }
        boolean takenForFelt = kind == KINDS;
        if (i >= HATS) {
            return takenForFelt ? ring.felt[p] : UNLIKE;
        }
        return !takenForFelt && Kinds.isOne(ring.kind[p], kind) ? p : UNLIKE;
    }

    // ---- what the calls share

    private static boolean within(int v, int least, int most) {
        return v >= least && v <= most;
    }

    private static boolean isByte(int v) {
        return within(v, 0, 255);
    }

    private static boolean isSheet(int s) {
        return within(s, 0, SHEETS - 1);
    }

    private static boolean isSort(int sort) {
        return within(sort, 0, SORTS - 1);
    }

    private boolean isHat(int p) {
        return within(p, 0, ring.size - 1);
    }

    private static int lowestBit(int bits) {
        for (int p = 0; p < HATS; p++) {
            if ((bits >> p & 1) != 0) {
                return p;
            }
        }
        return NONE;
    }

    private static long lowestTerms(int above, int below, int part) {
        if (!within(part, 0, 1) || below <= 0) {
            return NO;
        }
        int common = below;
        while (common > 1 && (above % common != 0 || below % common != 0)) {
            common--;
        }
        return (part == 0 ? above : below) / common;
    }

    private void imagine() {
        thought.become(ring);
    }

    private void imagineDrawn(int seed) {
        imagine();
        long lot = (seed + 1L) * LOT_STEP % LOT_BOUND;
        for (int p = 0; p < thought.size; p++) {
            thought.place[p] = (int) (lot % PLACES);
            lot = lot * LOT_STEP % LOT_BOUND;
        }
        for (int n = 0; n < LOT_ROUNDS; n++) {
            thought.play();
        }
    }

    // FELT never grows in a ROUND, so the rounds behind one's last FELT need no playing.
    private int feltBehind(int p, int n) {
        for (int i = 0; i < n && thought.felt[p] > 0; i++) {
            thought.play();
        }
        return thought.felt[p];
    }

    private int refusalOf(int s) {
        if (!isSheet(s)) {
            return BAD;
        }
        if (sheets[s].isMissing()) {
            return MISSING;
        }
        return sheets[s].size > STORY ? BAD : FINE;
    }

    private int refusalOf(int s, int p) {
        int refusal = refusalOf(s);
        return refusal == FINE && !isHat(p) ? NO_SUCH : refusal;
    }

    // Plays on in the thought, which the caller has set up.
    private int firstOtherwise(int s, int p) {
        Sheet story = sheets[s];
        for (int i = 0; i < story.size; i++) {
            thought.play();
            if (thought.felt[p] != story.row[i]) {
                return i;
            }
        }
        return NONE;
    }

    /** The HATS as they stand, truly, in thought, or in THE IMAGE. */
    private static final class Ring {
        private final Text[] texts;
        final int[] kind = new int[HATS];
        final int[] more = new int[HATS];
        final int[] place = new int[HATS];
        final int[] felt = new int[HATS];
        final int[] pride = new int[HATS];
        final int[] blows = new int[HATS];
        /** At p * HATS + q: how often p has hit q. */
        final int[] tally = new int[HATS * HATS];
        int size;
        int round;
        int law;

        Ring(Text[] texts) {
            this.texts = texts;
        }

        void become(Ring other) {
            System.arraycopy(other.kind, 0, kind, 0, HATS);
            System.arraycopy(other.more, 0, more, 0, HATS);
            System.arraycopy(other.place, 0, place, 0, HATS);
            System.arraycopy(other.felt, 0, felt, 0, HATS);
            System.arraycopy(other.pride, 0, pride, 0, HATS);
            System.arraycopy(other.blows, 0, blows, 0, HATS);
            System.arraycopy(other.tally, 0, tally, 0, HATS * HATS);
            size = other.size;
            round = other.round;
            law = other.law;
        }

        // The caller has looked whether there is room and whether the numbers are as told. BLOWS and
        // TALLIES are 0 beyond the last HAT, as become() takes the rows over whole.
        void add(int kindMore, int at, int feltPride) {
            int p = size;
            kind[p] = kindMore / 10;
            more[p] = kindMore % 10;
            place[p] = at;
            felt[p] = feltPride / 100;
            pride[p] = feltPride % 100;
            size++;
        }

        /** The row that put() and told() name, or null. */
        int[] rowOf(int what) {
            switch (what) {
                case PLACE: return place;
                case FELT: return felt;
                case PRIDE: return pride;
                case BLOWS: return blows;
                default: return null;
            }
        }

        /** Lays all others FLAT. */
        void leaveOnly(int p, int q) {
            for (int other = 0; other < size; other++) {
                felt[other] = other == p || other == q ? felt[other] : 0;
            }
        }

        int upBits() {
            int bits = 0;
            for (int p = 0; p < size; p++) {
                if (felt[p] > 0) {
                    bits |= 1 << p;
                }
            }
            return bits;
        }

        int upCount() {
            int up = 0;
            for (int p = 0; p < size; p++) {
                if (felt[p] > 0) {
                    up++;
                }
            }
            return up;
        }

        int feltSum() {
            int sum = 0;
            for (int p = 0; p < size; p++) {
                sum += felt[p];
            }
            return sum;
        }

        int tallySum() {
            int sum = 0;
            for (int p = 0; p < size; p++) {
                for (int q = 0; q < size; q++) {
                    sum += tally[p * HATS + q];
                }
            }
            return sum;
        }

        int mostFelt() {
            int best = NONE;
            int most = 0;
            for (int p = 0; p < size; p++) {
                if (felt[p] > most) {
                    most = felt[p];
                    best = p;
                }
            }
            return best;
        }

        int far(int p, int q) {
            return Math.abs(place[p] % SIDE - place[q] % SIDE) + Math.abs(place[p] / SIDE - place[q] / SIDE);
        }

        int nearest(int p) {
            int best = NONE;
            int least = PLACES;
            for (int q = 0; q < size; q++) {
                if (q != p && felt[q] > 0 && far(p, q) < least) {
                    least = far(p, q);
                    best = q;
                }
            }
            return best;
        }

        boolean goes(int p) {
            return Kinds.goes(kind[p], more[p], round, texts[law].says(GOES, this, p) != 0);
        }

        int hits(int p, int q) {
            return Kinds.hits(kind[p], more[p], kind[q], round, texts[law].says(HITS, this, p));
        }

        int soft(int p) {
            return Kinds.soft(kind[p], more[p], texts[law].says(SOFT, this, p));
        }

        static int blow(int hard, int soft) {
            return Math.max(0, Math.min(MOST, hard - soft));
        }

        /** A ROUND: the HATS (bits) that are FLAT by a hit in it. */
        int play() {
            int flat = 0;
            for (int p = 0; p < size; p++) {
                int q = felt[p] > 0 && goes(p) ? nearest(p) : NONE;
                if (q == NONE) {
                    continue;
                }
                if (far(p, q) > 1) {
                    step(p, q);
                } else {
                    land(p, q, blow(hits(p, q), soft(q)));
                    flat |= felt[q] == 0 ? 1 << q : 0;
                }
            }
            round++;
            return flat;
        }

        private void step(int p, int q) {
            int rows = place[q] / SIDE - place[p] / SIDE;
            int columns = place[q] % SIDE - place[p] % SIDE;
            if (rows != 0) {
                place[p] += rows > 0 ? SIDE : -SIDE;
            } else {
                place[p] += columns > 0 ? 1 : -1;
            }
        }

        private void land(int p, int q, int blow) {
            felt[q] = Math.max(0, felt[q] - blow);
            blows[q] = Math.min(MOST, blows[q] + 1);
            tally[p * HATS + q] = Math.min(MOST, tally[p * HATS + q] + 1);
            pride[p] = Math.min(MOST, pride[p] + 1);
        }
    }

    /** What is told of KINDS; "so" is what the TEXT says. */
    private static final class Kinds {
        private static final int HAT = 0, SILK = 1, BROWN = 2, TOP = 3, CAP = 4, SCARECROW = 5;
        /** Which KIND each one is besides. */
        private static final int[] ABOVE = {-1, HAT, HAT, SILK, BROWN, HAT};

        static boolean isOne(int kind, int of) {
            int one = kind;
            for (int i = 0; i < KINDS && one != of && within(one, 0, KINDS - 1); i++) {
                one = ABOVE[one];
            }
            return one == of;
        }

        static boolean goes(int kind, int more, int round, boolean so) {
            switch (kind) {
                case BROWN:
                case CAP: return so || round % 3 == more % 3;
                case TOP: return so && round >= more;
                case SCARECROW: return false;
                default: return so;
            }
        }

        // Nothing here falls below 0, as a TEXT's "hits" and MORE don't.
        static int hits(int kind, int more, int otherKind, int round, int so) {
            int asBrown = otherKind == SILK ? 2 * so : so;
            switch (kind) {
                case SILK: return so + more;
                case BROWN: return asBrown;
                case TOP: return round % 2 == 0 ? so + more : 1;
                case CAP: return otherKind == SCARECROW ? 0 : asBrown + 1;
                default: return so;
            }
        }

        static int soft(int kind, int more, int so) {
            switch (kind) {
                case SILK:
                case TOP: return so - more;
                case CAP: return so + more;
                case SCARECROW: return 3 * so + more;
                default: return so;
            }
        }
    }

    /** TOKENS: a NUMBER is itself, all others are below 0. */
    private static final class Token {
        static final int END = -1, WRONG = -2;
        static final int GOES = -3, HITS = -4, SOFT = -5, OR = -6, AND = -7, NOT = -8;
        static final int FELT = -9, PRIDE = -10, ROUND = -11, UP = -12, BLOWS = -13, MORE = -14;
        static final int OPEN = -15, CLOSE = -16, SEMICOLON = -17;
        static final int PLUS = -18, MINUS = -19, TIMES = -20, LESS = -21, LIKE = -22;
        /** Never read as such: a MINUS ahead of a ONE, in a TEXT's steps. */
        static final int NEGATE = -23;

        static boolean isName(int token) {
            return token <= FELT && token >= MORE;
        }

        static int ofSign(int sign) {
            switch (sign) {
                case '(': return OPEN;
                case ')': return CLOSE;
                case ';': return SEMICOLON;
                case '+': return PLUS;
                case '-': return MINUS;
                case '*': return TIMES;
                case '<': return LESS;
                case '=': return LIKE;
                default: return WRONG;
            }
        }
    }

    /**
     * A TEXT, as steps over a stack: a NUMBER or a NAME comes onto it, NOT and NEGATE change the
     * topmost, all others make one of the two topmost.
     */
    private static final class Text {
        private final int[] stack;
        private final int[] steps = new int[TAPE];
        /** Where the steps of each part end. */
        private final int[] ends = new int[PARTS];
        private int size;

        Text(int[] stack) {
            this.stack = stack;
        }

        void clear() {
            size = 0;
        }

        void write(int step) {
            if (size < steps.length) {
                steps[size] = step;
                size++;
            }
        }

        void endPart(int part) {
            ends[part] = size;
        }

        int says(int part, Ring ring, int p) {
            int top = 0;
            for (int i = part == 0 ? 0 : ends[part - 1]; i < ends[part]; i++) {
                int step = steps[i];
                boolean number = step >= 0;
                if ((number || Token.isName(step)) && top < stack.length) {
                    stack[top] = number ? step : fact(step, ring, p);
                    top++;
                } else if (step == Token.NOT && top > 0) {
                    stack[top - 1] = stack[top - 1] == 0 ? 1 : 0;
                } else if (step == Token.NEGATE && top > 0) {
                    stack[top - 1] = -stack[top - 1];
                } else if (top > 1) {
                    top--;
                    stack[top - 1] = joined(step, stack[top - 1], stack[top]);
                }
            }
            return Math.max(part == SOFT ? -MOST : 0, Math.min(MOST, stack[0]));
        }

        /** What a NAME stands for. */
        private static int fact(int name, Ring ring, int p) {
            switch (name) {
                case Token.FELT: return ring.felt[p];
                case Token.PRIDE: return ring.pride[p];
                case Token.ROUND: return ring.round;
                case Token.UP: return ring.upCount();
                case Token.BLOWS: return ring.blows[p];
                default: return ring.more[p];
            }
        }

        private static int joined(int step, int a, int b) {
            switch (step) {
                case Token.OR: return a != 0 || b != 0 ? 1 : 0;
                case Token.AND: return a != 0 && b != 0 ? 1 : 0;
                case Token.LESS: return a < b ? 1 : 0;
                case Token.LIKE: return a == b ? 1 : 0;
                case Token.PLUS: return a + b;
                case Token.MINUS: return a - b;
                default: return a * b;
            }
        }
    }

    /** Reads a TEXT; its methods bear the names of the grammar. */
    private static final class Reader {
        private static final int MOST_OPEN = 5, MOST_DIGITS = 4;

        private int[] bytes;
        private int size;
        private int at;
        private int start;
        private int token;
        private int fault;
        private Text into;

        /** The place of the FAULT, or NONE. */
        int read(int[] tapeBytes, int tapeSize, Text text) {
            bytes = tapeBytes;
            size = Math.min(tapeSize, tapeBytes.length);
            at = 0;
            fault = NONE;
            into = text;
            into.clear();
            next();
            for (int part = 0; part < PARTS; part++) {
                expect(part == GOES ? Token.GOES : part == HITS ? Token.HITS : Token.SOFT);
                readE(0);
                expect(Token.SEMICOLON);
                into.endPart(part);
            }
            if (token != Token.END) {
                refuse();
            }
            return fault;
        }

        // "open" is how many of ( , not and - are open; it bounds the recursion.
        private void readE(int open) {
            readAnd(open);
            for (int i = 0; i < TAPE && token == Token.OR; i++) {
                next();
                readAnd(open);
                into.write(Token.OR);
            }
        }

        private void readAnd(int open) {
            readNot(open);
            for (int i = 0; i < TAPE && token == Token.AND; i++) {
                next();
                readNot(open);
                into.write(Token.AND);
            }
        }

        private void readNot(int open) {
            if (token == Token.NOT && open < MOST_OPEN) {
                next();
                readNot(open + 1);
                into.write(Token.NOT);
                return;
            }
            readSum(open);
            if (token == Token.LESS || token == Token.LIKE) {
                int sign = token;
                next();
                readSum(open);
                into.write(sign);
            }
        }

        private void readSum(int open) {
            readTerm(open);
            for (int i = 0; i < TAPE && (token == Token.PLUS || token == Token.MINUS); i++) {
                int sign = token;
                next();
                readTerm(open);
                into.write(sign);
            }
        }

        private void readTerm(int open) {
            readOne(open);
            for (int i = 0; i < TAPE && token == Token.TIMES; i++) {
                next();
                readOne(open);
                into.write(Token.TIMES);
            }
        }

        // A NOT that may not be opened comes as far as this, and is refused here.
        private void readOne(int open) {
            if (token >= 0 || Token.isName(token)) {
                into.write(token);
                next();
            } else if (token == Token.MINUS && open < MOST_OPEN) {
                next();
                readOne(open + 1);
                into.write(Token.NEGATE);
            } else if (token == Token.OPEN && open < MOST_OPEN) {
                next();
                readE(open + 1);
                expect(Token.CLOSE);
            } else {
                refuse();
            }
        }

        private void expect(int wanted) {
            if (token == wanted) {
                next();
            } else {
                refuse();
            }
        }

        // Behind a FAULT no token fits anything, so that the reading ends and the first one stays.
        private void refuse() {
            if (fault == NONE) {
                fault = start;
            }
            token = Token.WRONG;
        }

        private void next() {
            while (at < size && (bytes[at] == ' ' || bytes[at] == '\n')) {
                at++;
            }
            start = at;
            if (at >= size) {
                token = Token.END;
            } else if (isLetter(bytes[at])) {
                token = nextWord();
            } else if (isDigit(bytes[at])) {
                token = nextNumber();
            } else {
                token = Token.ofSign(bytes[at]);
                at++;
            }
        }

        private int nextNumber() {
            int value = 0;
            while (at < size && isDigit(bytes[at])) {
                value = at - start < MOST_DIGITS ? value * 10 + bytes[at] - '0' : Token.WRONG;
                at++;
            }
            return value;
        }

        private int nextWord() {
            while (at < size && isLetter(bytes[at])) {
                at++;
            }
            return spells("goes") ? Token.GOES
                : spells("hits") ? Token.HITS
                : spells("soft") ? Token.SOFT
                : spells("or") ? Token.OR
                : spells("and") ? Token.AND
                : spells("not") ? Token.NOT
                : spells("felt") ? Token.FELT
                : spells("pride") ? Token.PRIDE
                : spells("round") ? Token.ROUND
                : spells("up") ? Token.UP
                : spells("blows") ? Token.BLOWS
                : spells("more") ? Token.MORE
                : Token.WRONG;
        }

        private boolean spells(String word) {
            if (at - start != word.length()) {
                return false;
            }
            for (int i = 0; i < word.length(); i++) {
                if (bytes[start + i] != word.charAt(i)) {
                    return false;
                }
            }
            return true;
        }

        private static boolean isLetter(int c) {
            return c >= 'a' && c <= 'z';
        }

        private static boolean isDigit(int c) {
            return c >= '0' && c <= '9';
        }
    }

    /** A row of numbers, kept at its full length; missing while its sort is AWAY. */
    private static final class Sheet {
        static final int AWAY = -1, BYTES = 0, SHORTS = 1;

        final int[] row = new int[CELLS];
        int sort = AWAY;
        int size;

        boolean isMissing() {
            return sort == AWAY;
        }

        void become(int newSort, int newSize) {
            sort = newSort;
            size = newSize;
            Arrays.fill(row, 0);
        }

        void write(int i, int v) {
            row[i] = sort == BYTES ? (byte) v : sort == SHORTS ? (short) v : v;
        }
    }
}
