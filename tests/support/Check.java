/** Counts the answers that are not as due. */
final class Check {
    private int wrong;

    void due(int promise, String call, long got, long want) {
        if (got != want) {
            wrong++;
            System.out.println("promise " + promise + ": " + call + " answered " + got + ", due is " + want);
        }
    }

    void fail(String what) {
        wrong++;
        System.out.println(what);
    }

    void end() {
        System.out.println(wrong == 0 ? "all answers are as due" : wrong + " answers are not as due");
        if (wrong != 0) {
            System.exit(1);
        }
    }

    /** Feeds a whole text and answers what text() says of it. */
    static int text(HatsInRing x, String text) {
        for (int i = 0; i < text.length(); i += 5) {
            int n = Math.min(5, text.length() - i);
            int[] b = new int[5];
            for (int k = 0; k < n; k++) {
                b[k] = text.charAt(i + k);
            }
            if (x.feed(n, b[0], b[1], b[2], b[3], b[4]) != i + n) {
                return Integer.MIN_VALUE;
            }
        }
        return x.text();
    }

    /** A row of ints on a SHEET. */
    static void sheet(HatsInRing x, int s, int... numbers) {
        x.sheet(s, 2, numbers.length);
        for (int i = 0; i < numbers.length; i++) {
            x.cell(s, i, numbers[i]);
        }
    }
}
