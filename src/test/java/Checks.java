/** What the tests have in common: a count of wrong answers, and texts fed to the tape. */
final class Checks {
    private int wrong = 0;
    private int asked = 0;

    void due(String call, long got, long want) {
        asked++;
        if (got != want) {
            wrong++;
            System.out.println(call + " answered " + got + ", due is " + want);
        }
    }

    void due(String call, boolean got, boolean want) {
        due(call, got ? 1 : 0, want ? 1 : 0);
    }

    /** Ends the test, with exit code 1 if an answer was wrong. */
    void finish() {
        System.out.println(wrong == 0 ? asked + " answers are as due" : wrong + " of " + asked + " answers are not as due");
        if (wrong != 0) {
            System.exit(1);
        }
    }

    /** Puts a text on an empty tape; characters are bytes. */
    static void feed(StreetWaves waves, String text) {
        for (int at = 0; at < text.length(); at += 20) {
            waves.feed(word(text, at), word(text, at + 4), word(text, at + 8), word(text, at + 12), word(text, at + 16));
        }
        waves.end(text.length());
    }

    private static int word(String text, int at) {
        int word = 0;
        for (int k = at; k < at + 4; k++) {
            word = word << 8 | (k < text.length() ? text.charAt(k) & 255 : 0);
        }
        return word;
    }

    static int town(StreetWaves waves, String text) {
        feed(waves, text);
        return waves.town();
    }

    static int law(StreetWaves waves, String text) {
        feed(waves, text);
        return waves.law();
    }

    /** A new object with a town that is told at once. */
    static StreetWaves told(String text) {
        StreetWaves waves = new StreetWaves();
        town(waves, text);
        return waves;
    }
}
