/** What the tests share: each call's answer is held against the one that is due. */
final class Due {
    private int right = 0;
    private int wrong = 0;
    private int sentences = 0;
    private int rightAhead = 0;
    private String sentence = "";

    /** A sentence of the document: the answers that follow are held against it, and one of them at least comes. */
    void says(String words) {
        endSentence();
        sentence = words;
        sentences++;
    }

    private void endSentence() {
        if (!sentence.isEmpty() && right + wrong == rightAhead) {
            wrong++;
            System.out.println("nothing is held against \"" + sentence + "\"");
        }
        rightAhead = right + wrong;
    }

    void is(String call, long got, long want) {
        if (got == want) {
            right++;
        } else {
            wrong++;
            System.out.println(call + " answered " + got + ", due is " + want
                + (sentence.isEmpty() ? "" : " by \"" + sentence + "\""));
        }
    }

    /** A refused call: the answer, the count of its reason one more, and all else as it was. */
    void refused(HorseGift x, String call, long got, long want, int reason, int before, long digest) {
        is(call, got, want);
        is(call + ", then status(" + reason + ")", x.status(reason), before + 1);
        is(call + ", then digest()", x.digest(), digest);
    }

    /** A call by its number that is refused: as above, and the other reasons are counted as they were. */
    void refuses(HorseGift x, long answer, int reason, int call, int... a) {
        long digest = x.digest();
        int[] before = {x.status(0), x.status(1), x.status(2)};
        String spelled = Calls.spelled(call, a);
        is(spelled, Calls.answer(x, call, a), answer);
        for (int r = 0; r <= 2; r++) {
            is(spelled + ", then status(" + r + ")", x.status(r), before[r] + (r == reason ? 1 : 0));
        }
        is(spelled + ", then digest()", x.digest(), digest);
    }

    void bad(HorseGift x, int call, int... a) {
        boolean ten = call == 11 || call == 15 || call == 19 || call == 23;
        refuses(x, call == 28 ? -1 : ten ? -10 : -2, 0, call, a);
    }

    void no(HorseGift x, int call, int... a) {
        refuses(x, -3, 1, call, a);
    }

    void full(HorseGift x, int call, int... a) {
        refuses(x, -4, 2, call, a);
    }

    /** Ends the program: with 1, if an answer was wrong. */
    void end(String test) {
        endSentence();
        System.out.println(test + ": " + right + " answers right, " + wrong + " wrong"
            + (sentences == 0 ? "" : ", of " + sentences + " sentences"));
        if (wrong != 0 || right == 0) {
            System.exit(1);
        }
    }

    /** Types a text anew. */
    static void type(HorseGift x, String text) {
        x.clear();
        for (int i = 0; i < text.length(); i++) {
            x.type(text.charAt(i));
        }
    }

    /** Types a text and answers what reading it says. */
    static int read(HorseGift x, String text) {
        type(x, text);
        return x.read();
    }

    /** A new object whose war is told by a text. */
    static HorseGift told(String text) {
        HorseGift x = new HorseGift();
        if (read(x, text) < 0) {
            throw new IllegalStateException("a test's own text is refused: " + text);
        }
        return x;
    }
}
