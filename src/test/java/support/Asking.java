/** What the tests by hand have in common: asking, and setting things up by short calls. */
abstract class Asking {
    static final int BAD = -1, NOT = -2, FULL = -3, STATE = -5;
    static final int NONE = -11, KIND = -12, PLACE = -13, SIZE = -14;
    static final int ALWAYS = 4095;
    static final int LEAST = Integer.MIN_VALUE, GREATEST = Integer.MAX_VALUE;

    final Due due = new Due();
    String about = "";

    void is(String call, long got, long want) {
        due.is(about + ": " + call, got, want);
    }

    static void feedAll(ThoughtsDrip x, String text) {
        for (int k = 0; k < text.length(); k++) {
            x.feed(text.charAt(k));
        }
    }

    static int tell(ThoughtsDrip x, String text) {
        feedAll(x, text);
        return x.law();
    }

    static void basin(ThoughtsDrip x, int shelf, int... bytes) {
        row(x, shelf, 0, bytes);
    }

    static void shorts(ThoughtsDrip x, int shelf, int... values) {
        row(x, shelf, 1, values);
    }

    static void row(ThoughtsDrip x, int shelf, int sort, int... values) {
        x.row(shelf, sort, values.length);
        for (int k = 0; k < values.length; k++) {
            x.put(shelf, k, values[k]);
        }
    }
}
