/** What the tests share: each call's answer is held against the one that is due. */
final class Due {
    private int right = 0;
    private int wrong = 0;

    void is(String call, long got, long want) {
        if (got == want) {
            right++;
        } else {
            wrong++;
            System.out.println(call + " answered " + got + ", due is " + want);
        }
    }

    /** A refused call: the answer, the count of its reason one more, and all else as it was. */
    void refused(HorseGift x, String call, long got, long want, int reason, int before, long digest) {
        is(call, got, want);
        is(call + ", then status(" + reason + ")", x.status(reason), before + 1);
        is(call + ", then digest()", x.digest(), digest);
    }

    /** Ends the program: with 1, if an answer was wrong. */
    void end(String test) {
        System.out.println(test + ": " + right + " answers right, " + wrong + " wrong");
        if (wrong != 0 || right == 0) {
            System.exit(1);
        }
    }

    /** Types a text and answers what reading it says. */
    static int read(HorseGift x, String text) {
        x.clear();
        for (int i = 0; i < text.length(); i++) {
            x.type(text.charAt(i));
        }
        return x.read();
    }

    /** A new object whose war is told by a text. */
    static HorseGift told(String text) {
        HorseGift x = new HorseGift();
        if (read(x, text) < 0) {
            throw new IllegalStateException("a test's own text is refused: " + text);
        }
        return x;
    }
}
