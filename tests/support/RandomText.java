import java.util.Random;

/** Texts by lots: most of them right, some with a byte taken out, put in, or changed. */
final class RandomText {
    private static final String[] NAMES = {"felt", "pride", "round", "up", "blows", "more"};
    private static final String BYTES = "goeshitsoftandnt();+-*<= \n0123456789AZ_\t";
    private final Random lots;
    private final StringBuilder text = new StringBuilder();

    private RandomText(Random lots) {
        this.lots = lots;
    }

    static String of(Random lots) {
        RandomText made = new RandomText(lots);
        made.whole();
        StringBuilder text = made.text;
        int change = lots.nextInt(12);
        int at = lots.nextInt(text.length());
        char b = BYTES.charAt(lots.nextInt(BYTES.length()));
        if (change == 0) {
            text.deleteCharAt(at);
        } else if (change == 1) {
            text.insert(at, b);
        } else if (change == 2) {
            text.setCharAt(at, b);
        } else if (change == 3) {
            text.setLength(at);
        }
        text.setLength(Math.min(text.length(), 165));
        return text.toString();
    }

    private void whole() {
        int deep = lots.nextInt(5);
        part("goes", deep);
        part("hits", deep);
        part("soft", deep);
        if (lots.nextInt(20) == 0) {
            put("up");
        }
    }

    private void part(String key, int deep) {
        put(key);
        if (key.equals("goes") && lots.nextBoolean()) {
            put("1");
        } else {
            either(deep);
        }
        put(";");
    }

    private void put(String token) {
        boolean letters = text.length() > 0 && Character.isLetterOrDigit(text.charAt(text.length() - 1))
            && Character.isLetterOrDigit(token.charAt(0));
        if (letters || lots.nextInt(4) == 0) {
            text.append(lots.nextInt(9) == 0 ? '\n' : ' ');
        }
        text.append(token);
    }

    private void either(int deep) {
        both(deep);
        while (deep > 0 && lots.nextInt(6) == 0) {
            put("or");
            both(deep);
        }
    }

    private void both(int deep) {
        denied(deep);
        while (deep > 0 && lots.nextInt(6) == 0) {
            put("and");
            denied(deep);
        }
    }

    private void denied(int deep) {
        if (deep > 0 && lots.nextInt(6) == 0) {
            put("not");
            denied(deep);
            return;
        }
        sum(deep);
        if (deep > 0 && lots.nextInt(5) == 0) {
            put(lots.nextBoolean() ? "<" : "=");
            sum(deep);
        }
    }

    private void sum(int deep) {
        term(deep);
        while (lots.nextInt(5) == 0) {
            put(lots.nextBoolean() ? "+" : "-");
            term(deep);
        }
    }

    private void term(int deep) {
        one(deep);
        while (lots.nextInt(7) == 0) {
            put("*");
            one(deep);
        }
    }

    private void one(int deep) {
        int lot = lots.nextInt(deep > 0 ? 12 : 7);
        if (lot < 4) {
            put(lots.nextInt(12) == 0 ? "" + lots.nextInt(12000) : "" + lots.nextInt(12));
        } else if (lot < 8) {
            put(NAMES[lots.nextInt(NAMES.length)]);
        } else if (lot < 9) {
            put("-");
            one(deep);
        } else {
            put("(");
            either(lots.nextInt(4) == 0 ? deep : deep - 1);
            put(")");
        }
    }
}
