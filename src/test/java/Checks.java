/** Tells which answers are not as due, and ends with exit code 1 if there was one. */
final class Checks {
    private int wrong = 0;
    private int asked = 0;

    void due(String call, long got, long want) {
        asked++;
        if (got != want) {
            wrong++;
            System.out.println(call + " answered " + got + ", due is " + want);
        }
    }

    void due(String call, boolean got, boolean want) {
        due(call, got ? 1L : 0L, want ? 1L : 0L);
    }

    boolean allRight() {
        return wrong == 0;
    }

    void end() {
        System.out.println(asked + " answers, " + wrong + " of them not as due");
        if (wrong != 0) {
            System.exit(1);
        }
    }

    /** The tape gets a text, filled up with a's to twenties of bytes. */
    static void feed(TalkingPlots x, String text) {
        for (int i = 0; i < text.length(); i += 20) {
            x.feed(four(text, i), four(text, i + 4), four(text, i + 8), four(text, i + 12), four(text, i + 16));
        }
    }

    static int four(String text, int from) {
        int sum = 0;
        for (int i = from; i < from + 4; i++) {
            sum = sum << 8 | (i < text.length() ? text.charAt(i) & 255 : 'a');
        }
        return sum;
    }

    static int law(TalkingPlots x, String text) {
        feed(x, text);
        return x.law(text.length());
    }

    static int burials(TalkingPlots x, String text) {
        feed(x, text);
        return x.burials(text.length());
    }

    static int wishes(TalkingPlots x, String text) {
        feed(x, text);
        return x.wishes(text.length());
    }

    static String again(String part, String between, int times) {
        StringBuilder all = new StringBuilder();
        for (int i = 0; i < times; i++) {
            all.append(i == 0 ? "" : between).append(part);
        }
        return all.toString();
    }
}
