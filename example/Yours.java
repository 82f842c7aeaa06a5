/** How HatsInRing is used: two hats, a law, a story of a fight, an image. README.md tells of it. */
public final class Yours {
    public static void main(String[] args) {
        HatsInRing x = new HatsInRing();
        int hat = x.hat(3, 9, 4010);     // a HAT (kind 0), more 3, at place 9, felt 40, pride 10
        int silk = x.hat(14, 20, 9905);  // a SILK (kind 1), more 4, at place 20, felt 99, pride 5
        System.out.println("numbers: " + hat + ", " + silk);
        System.out.println("betting on the first: " + x.betting(hat, 0) + " of " + x.betting(hat, 1));
        System.out.println("up behind 60 rounds (bits): " + x.run(60, 0));
        System.out.println("the first is flat behind " + x.when(hat) + " rounds");

        int law = text(x, "goes felt < 50 or 3 < round ; hits 3 + up * 2 ; soft more ;");
        x.force(law);
        System.out.println("by text " + law + ": flat behind " + x.when(hat) + " rounds");
        System.out.println("a fault: " + text(x, "goes 1 ; hurts 5 ; soft 0 ;"));

        x.film(0, hat, 8);
        System.out.println("the story of the first is otherwise at " + x.judge(0, hat));
        x.cell(0, 5, 77);
        System.out.println("now it is otherwise at " + x.judge(0, hat));

        x.image();
        for (int i = 0; i < 8; i++) {
            x.round();
        }
        System.out.println("in round " + x.count(1) + " the first has felt " + x.told(hat, 1));
        x.back();
        System.out.println("back in round " + x.count(1) + " it has " + x.told(hat, 1));

        System.out.println("no such kind: " + (x.hat(60, 0, 0) == HatsInRing.BAD));
        System.out.println("no such hat: " + x.told(2, 1));
    }

    /** Feeds a text, five bytes a call; its number, or -100 less the place of its fault. */
    private static int text(HatsInRing x, String text) {
        for (int i = 0; i < text.length(); i += 5) {
            int n = Math.min(5, text.length() - i);
            String five = text.substring(i, i + n) + "    ";
            x.feed(n, five.charAt(0), five.charAt(1), five.charAt(2), five.charAt(3), five.charAt(4));
        }
        return x.text();
    }
}
