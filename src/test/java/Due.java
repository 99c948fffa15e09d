/** Counts the answers that are not as due, and types texts: what all tests of the project share. */
final class Due {
    private final String test;
    private int calls = 0;
    private int wrong = 0;

    Due(String test) {
        this.test = test;
    }

    void is(String call, long got, long want) {
        calls++;
        if (got != want) {
            wrong++;
            System.out.println(test + ": " + call + " answered " + got + ", due is " + want);
        }
    }

    /** Ends the test: with exit code 1 if an answer was not as due. */
    void end() {
        System.out.println(calls + " answers, " + wrong + " not as due");
        if (wrong != 0) {
            System.exit(1);
        }
    }

    /** Types a text of the signs 0 to 255: the last answer of type(), or 0 for no text. */
    static int type(ThreeVoices x, String text) {
        int answer = 0;
        for (int from = 0; from < text.length(); from += 8) {
            int end = Math.min(from + 8, text.length());
            long v = 0;
            for (int i = from; i < end; i++) {
                v = v << 8 | text.charAt(i);
            }
            answer = x.type(v, end - from);
        }
        return answer;
    }

    /** A new object that has been told a text. */
    static ThreeVoices told(String text) {
        ThreeVoices x = new ThreeVoices();
        type(x, text);
        int items = x.tell();
        if (items < 0) {
            throw new IllegalStateException("a test's own text has a FAULT: " + items + ": " + text);
        }
        return x;
    }

    /** What tell() answers a new object with that text. */
    static int telling(String text) {
        ThreeVoices x = new ThreeVoices();
        type(x, text);
        return x.tell();
    }

    static String times(int n, String part) {
        return part.repeat(n);
    }
}
