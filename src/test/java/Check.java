/** Counts the answers that are not as due, and feeds texts. */
final class Check {
    private int wrong;
    private int asked;

    void due(String what, long got, long want) {
        asked++;
        if (got != want) {
            wrong++;
            System.out.println(what + " answered " + got + ", due is " + want);
        }
    }

    void due(String what, boolean got, boolean want) {
        due(what, got ? 1 : 0, want ? 1 : 0);
    }

    /** An answer that refuses, and the trouble that it leaves. */
    void refused(String what, StillYard x, long got, int trouble) {
        due(what, got, -1);
        due(what + " trouble", x.trouble(), trouble);
    }

    void denied(String what, StillYard x, boolean got, int trouble) {
        due(what, got, false);
        due(what + " trouble", x.trouble(), trouble);
    }

    /** An answer of a call that may be refused and isn't. */
    void well(String what, StillYard x, long got, long want) {
        due(what, got, want);
        due(what + " trouble", x.trouble(), 0);
    }

    void granted(String what, StillYard x, boolean got) {
        due(what, got, true);
        due(what + " trouble", x.trouble(), 0);
    }

    int asked() {
        return asked;
    }

    int wrong() {
        return wrong;
    }

    void end() {
        System.out.println(asked + " answers, " + wrong + " not as due");
        if (wrong > 0 || asked == 0) {
            System.exit(1);
        }
    }

    static int four(String text, int i) {
        int number = 0;
        for (int k = i; k < i + 4; k++) {
            number = number << 8 | (k < text.length() ? text.charAt(k) & 255 : ' ');
        }
        return number;
    }

    static void feed(StillYard x, String text) {
        for (int i = 0; i < text.length(); i += 20) {
            x.feed(four(text, i), four(text, i + 4), four(text, i + 8), four(text, i + 12), four(text, i + 16));
        }
    }

    static int read(StillYard x, String text) {
        feed(x, text);
        return x.game(text.length());
    }

    static StillYard yard(String text) {
        StillYard x = new StillYard();
        int got = read(x, text);
        if (got < 1) {
            System.out.println("fault " + x.fault() + " at " + x.where() + " of " + text);
            System.exit(1);
        }
        return x;
    }
}
