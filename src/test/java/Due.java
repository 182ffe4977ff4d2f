/** Counts the answers that are not the ones that are due. */
final class Due {
    private static int wrong = 0;
    private static int asked = 0;

    private Due() {
    }

    /** A call with one number in it left open. */
    interface Answer {
        long to(int n);
    }

    /** The same, of calls that answer true or false. */
    interface Word {
        boolean to(int n);
    }

    static void due(String call, long got, long want) {
        asked++;
        if (got != want) {
            wrong++;
            System.out.println(call + " answered " + got + ", due is " + want);
        }
    }

    static void due(String call, boolean got, boolean want) {
        due(call, got ? 1L : 0L, want ? 1L : 0L);
    }

    static void each(String call, Answer answer, long want, int... numbers) {
        for (int n : numbers) {
            due(call + " of " + n, answer.to(n), want);
        }
    }

    static void says(String call, Word word, boolean want, int... numbers) {
        for (int n : numbers) {
            due(call + " of " + n, word.to(n), want);
        }
    }

    /** Numbers just below and above these, those that cut to fewer bits would be among them, and the farthest. */
    static int[] outside(int low, int high) {
        return new int[] {low - 1, high + 1, low - 256, low + (1 << 17), high - (1 << 20), low + (1 << 30),
            Integer.MIN_VALUE, Integer.MIN_VALUE + 1, Integer.MAX_VALUE};
    }

    /** The tape's bytes come by twenties: what is lacking behind the text is filled up with blanks. */
    static int rules(SaggingNet net, String text) {
        feedAll(net, text);
        return net.rules(text.length());
    }

    static void feedAll(SaggingNet net, String text) {
        for (int from = 0; from < text.length(); from += 20) {
            net.feed(four(text, from), four(text, from + 4), four(text, from + 8),
                    four(text, from + 12), four(text, from + 16));
        }
    }

    private static int four(String text, int from) {
        int bytes = 0;
        for (int i = from; i < from + 4; i++) {
            bytes = bytes << 8 | (i < text.length() ? text.charAt(i) & 255 : 32);
        }
        return bytes;
    }

    static void end() {
        System.out.println(asked + " answers, " + wrong + " not as due");
        if (wrong != 0 || asked == 0) {
            System.exit(1);
        }
    }
}
