/** One game: told, played, asked about. README.md shows it with what it prints; ReadmeTest compares. */
public final class Example {
    private static final String TEXT = "yard long 6 lanes 2 runs 2;"
        + " verse 2 3, 4, 3;"
        + " one turns 50, 20 looks 6 eye 3 sees 30;"
        + " gravel lane 0 from 2 to 3 loud 30;"
        + " creeper ann lane 0 pace 2 wobble 50 tall 120 expects 5 brave;"
        + " creeper bob lane 1 pace 3 wobble 40 tall 150 expects 0 safe 1";

    public static void main(String[] args) {
        StillYard x = new StillYard();
        feed(x, TEXT);
        System.out.println("creepers: " + x.game(TEXT.length()));
        x.start(13);
        while (x.round() == 1) {
            System.out.println("he looked behind tenth " + x.play(5) + ": ann at " + x.about(0, 0)
                + ", bob at " + x.about(1, 0));
        }
        System.out.println("touched by " + x.play(6) + " behind tenth " + x.play(5) + "; caught, as bits: " + x.play(7));
        System.out.println("ann had best go " + x.best(0, 0, false) + " tenths from the line; to be behind a tall one"
            + " is worth " + x.worth(0, 0) + " places in " + 100 * x.ways() + " ways");
        System.out.println("a place beyond the wall: " + x.risk(0, 9, 3) + ", trouble " + x.trouble());
        feed(x, "yard long 99");
        System.out.println("a long yard: " + x.game(12) + ", trouble " + x.trouble() + ", fault " + x.fault()
            + " at " + x.where());
    }

    /** Four bytes to a number, the highest first; the last twenty are filled up with blanks. */
    private static void feed(StillYard x, String text) {
        for (int i = 0; i < text.length(); i += 20) {
            x.feed(four(text, i), four(text, i + 4), four(text, i + 8), four(text, i + 12), four(text, i + 16));
        }
    }

    private static int four(String text, int from) {
        int number = 0;
        for (int i = from; i < from + 4; i++) {
            number = number << 8 | (i < text.length() ? text.charAt(i) : ' ');
        }
        return number;
    }
}
