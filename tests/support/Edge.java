import java.io.IOException;
import java.nio.file.Files;
import java.nio.file.Path;
import java.util.ArrayList;
import java.util.Arrays;
import java.util.LinkedHashMap;
import java.util.List;
import java.util.Map;
import java.util.regex.Matcher;
import java.util.regex.Pattern;

/**
 * Tests of the document's sentences that name a boundary case: each is quoted word by word, together with
 * the promise or the word of "Terms" that it stands under, ahead of what it asks for.
 */
final class Edge {
    static final int MOST = Integer.MAX_VALUE, LEAST = Integer.MIN_VALUE;
    /** Numbers far off, for whatever a call takes. */
    static final int[] FAR_OFF = {LEAST, LEAST + 1, -1000000, 1000000, MOST - 1, MOST};

    private static final List<String> WORDS = List.of("PLACES", "ROUND", "HATS", "FELT", "PRIDE", "BLOWS", "TALLY",
        "KINDS", "BLOW", "TEXT", "TOKENS", "FAULT", "NEAREST", "A ROUND", "RINGS", "LOTS", "AN IMAGE", "SHEETS",
        "REFUSALS");
    /** What tells that a sentence names a boundary case. */
    private static final Pattern BOUNDARY = Pattern.compile("\\d+ \\.\\. ?\\d*|-\\d+|\\bBAD\\b|\\bFULL\\b|\\bSTATE\\b|\\bNO\\b"
        + "|\\bNONE\\b|at most|at least|as long as can be|[bB]ound|\\bnone\\b|\\bfirst\\b|\\bempty\\b|\\bmissing\\b|wrapping"
        + "|\\bnever\\b|\\balways\\b|too long|too early|truly|in thought|likewise|more than|fewer|below|may pass|\\bcut\\b"
        + "|modulo|lowest|perhaps|does not matter|ahead of|left out|room|own\\b|itself|together|\\bas so\\b|nothing");

    private final Map<String, String> sections = new LinkedHashMap<>();
    private final Map<String, List<String>> quotes = new LinkedHashMap<>();
    private String sentence = "";
    private int asked;
    private int wrong;
    private int count;

    Edge(String file) throws IOException {
        String doc = Files.readString(Path.of(file));
        Matcher heading = Pattern.compile("(?m)^## (\\w[\\w ]*)(:.*)?$").matcher(doc);
        String name = "";
        int start = 0;
        while (heading.find()) {
            sections.put(name, doc.substring(start, heading.start()));
            name = heading.group(1);
            start = heading.end();
        }
        sections.put(name, doc.substring(start));
    }

    /** From here on a sentence is tested that stands under a word of "Terms", or under a heading. */
    void of(String under, String quote) {
        close();
        sentence = under + ": \"" + quote + "\"";
        count++;
        asked = 0;
        String section = WORDS.contains(under) ? "Terms" : under;
        if (!sections.getOrDefault(section, "").contains(quote)) {
            fail("the document doesn't say so");
        }
        quotes.computeIfAbsent(section, s -> new ArrayList<>()).add(quote);
    }

    void of(int promise, String quote) {
        of("Promise " + promise, quote);
    }

    void due(String call, long got, long want) {
        asked++;
        if (got != want) {
            fail(call + " answered " + got + ", due is " + want);
        }
    }

    void end() {
        close();
        for (String section : sections.keySet()) {
            if (section.equals("Terms") || section.startsWith("Promise")) {
                untested(section);
            }
        }
        System.out.println(count + " sentences, " + (wrong == 0 ? "all answers are as due" : wrong + " answers are not as due"));
        if (wrong != 0) {
            System.exit(1);
        }
    }

    private void close() {
        if (count > 0 && asked == 0) {
            fail("nothing is asked");
        }
    }

    private void fail(String what) {
        wrong++;
        System.out.println(sentence + ": " + what);
    }

    /** What names a boundary case, but stands in no sentence that was quoted. */
    private void untested(String section) {
        String text = sections.get(section);
        boolean[] tested = new boolean[text.length()];
        for (String quote : quotes.getOrDefault(section, List.of())) {
            for (int at = text.indexOf(quote); at >= 0; at = text.indexOf(quote, at + 1)) {
                Arrays.fill(tested, at, at + quote.length(), true);
            }
        }
        sentence = section;
        Matcher boundary = BOUNDARY.matcher(text);
        while (boundary.find()) {
            if (!tested[boundary.start()] || !tested[boundary.end() - 1]) {
                int from = Math.max(0, boundary.start() - 30);
                int to = Math.min(text.length(), boundary.end() + 30);
                fail("no test of \".." + text.substring(from, to).replace('\n', ' ') + "..\"");
            }
        }
    }

    // ---- what the tests share

    /** A ring of HATS, three numbers each, as of hat(). */
    static HatsInRing ring(int... hats) {
        HatsInRing x = new HatsInRing();
        throwIn(x, hats);
        return x;
    }

    /** The same, TEXT 1 being THE LAW. */
    static HatsInRing by(String text, int... hats) {
        HatsInRing x = new HatsInRing();
        if (Check.text(x, text) != 1) {
            throw new IllegalArgumentException(text);
        }
        x.force(1);
        throwIn(x, hats);
        return x;
    }

    private static void throwIn(HatsInRing x, int... hats) {
        for (int i = 0; i < hats.length; i += 3) {
            if (x.hat(hats[i], hats[i + 1], hats[i + 2]) != i / 3) {
                throw new IllegalArgumentException("HAT " + i / 3);
            }
        }
    }

    /** All that can be asked of the ring itself, but for the SHEETS and THE IMAGE. */
    static List<Integer> state(HatsInRing x) {
        List<Integer> state = new ArrayList<>();
        for (int what = 0; what < 6; what++) {
            state.add(x.count(what));
        }
        int hats = x.count(0);
        for (int p = 0; p < hats; p++) {
            for (int what = 0; what < 6; what++) {
                state.add(x.told(p, what));
            }
            for (int q = 0; q < hats; q++) {
                state.add(x.duel(p, q, 3));
            }
            state.add(x.asks(1, p));
        }
        return state;
    }

    void same(String what, List<Integer> got, List<Integer> want) {
        due(what, got.equals(want) ? 1 : 0, 1);
    }

    /**
     * Number i (0 .. 99, else -1) of a SHEET, told by another object's calls: it is copied to SHEET 3, and
     * that tells FELT of HAT 0, which nobody hits (all being SCARECROWS).
     */
    static int number(HatsInRing x, int s, int sort, int i) {
        x.sheet(3, sort, 1);
        return x.copy(s, i, 3, 0, 1) == 1 ? x.states(3, 0, 1, 1) : -1;
    }
}
