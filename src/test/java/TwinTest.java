import java.util.ArrayList;
import java.util.List;

/** Seeded runs of calls, each answered by the program and by its twin. */
final class TwinTest {
    private static final int RUNS = 1500;
    private static final int CALLS = 512;

    private static long seed = 20261118;
    private static final long[] rows = new long[Calls.NAMES.length];

    private static int below(int n) {
        seed = seed * 6364136223846793005L + 1442695040888963407L;
        return (int) ((seed >>> 33) % n);
    }

    /** Mostly a number of a range, now and then one at or beyond its edge. */
    private static int about(int from, int to) {
        switch (below(24)) {
            case 0: return from - 1;
            case 1: return to + 1;
            case 2: return below(2) == 0 ? Integer.MAX_VALUE : Integer.MIN_VALUE;
            case 3: return from;
            case 4: return to;
            default: return from + below(to - from + 1);
        }
    }

    public static void main(String[] args) {
        for (int run = 0; run < RUNS; run++) {
            if (!agrees(run)) {
                System.exit(1);
            }
        }
        for (int call = 2; call < Calls.NAMES.length; call++) {
            if (rows[call] < 1000) {
                System.out.println(Calls.NAMES[call] + " was called only " + rows[call] + " times");
                System.exit(1);
            }
        }
        System.out.println("TwinTest: " + RUNS + " runs of " + CALLS + " calls agree");
    }

    private static boolean agrees(int run) {
        HorseGift x = new HorseGift();
        Twin twin = new Twin();
        List<String> before = new ArrayList<>();
        List<Integer> typing = new ArrayList<>();
        for (int n = 0; n < CALLS; n++) {
            int call = typing.isEmpty() ? which(run, n) : typing.get(0) < 0 ? 10 : 8;
            int[] a = numbers(call, n);
            if (!typing.isEmpty()) {
                a[0] = typing.remove(0);
            } else if (call == 10 && below(8) > 0) {
                call = 9;
                typing.addAll(textOf(x));
            }
            rows[call]++;
            long got = Calls.answer(x, call, a);
            long want = twin.call(call, a);
            before.add(Calls.spelled(call, a) + " = " + got);
            if (got != want) {
                System.out.println("run " + run + ", call " + n + ": " + String.join("\n", before) + ", due is " + want);
                return false;
            }
        }
        return true;
    }

    /** Which call comes: the first ones make a war, most of the runs then leave it to be asked. */
    private static int which(int run, int n) {
        if (n < 14) {
            return n % 2 == 0 ? 2 : 3;
        }
        int[] often = {4, 4, 4, 5, 6, 7, 11, 11, 12, 21};
        return below(3) == 0 ? often[below(often.length)] : run % 3 == 0 ? 11 + below(20) : 2 + below(29);
    }

    private static int[] numbers(int call, int n) {
        switch (call) {
            case 2: return new int[] {about(1, 9 - below(8)), about(0, 20), about(0, 1 + below(20)), about(0, 20)};
            case 3: return new int[] {about(0, 5), about(0, 1), about(0, 50), about(0, 30)};
            case 4: return new int[] {about(0, 7), about(0, 5), 0, 0};
            case 5: return new int[] {about(0, 7), 0, 0, 0};
            case 6:
                int what = about(0, 2);
                return new int[] {about(0, 1), what, about(0, what == 0 ? 30 : what == 1 ? 50 : 200), 0};
            case 7: return new int[] {about(0, 1), about(0, 5), about(0, 20), 0};
            case 8: return new int[] {about(0, 127), 0, 0, 0};
            case 11: return new int[] {about(0, 5), about(0, 5), 0, 0};
            case 13: return new int[] {about(0, 5), about(0, 6), 0, 0};
            case 14: return new int[] {about(0, 1), about(0, 4), 0, 0};
            case 15:
            case 19: return new int[] {about(0, 5), about(0, 5), about(0, 1), 0};
            case 17: return new int[] {about(0, 5), about(0, 10), below(2), 0};
            case 18: return new int[] {about(0, 5), about(0, 255), about(0, 255), 0};
            case 20: return new int[] {about(0, 5), about(0, 1), 0, 0};
            case 21: return new int[] {about(0, 5), about(0, below(2) == 0 ? 99 : 1 + below(20)), 0, 0};
            case 22: return new int[] {about(0, 7), about(0, 5), 0, 0};
            case 23: return new int[] {about(0, 1), about(0, 400), about(1, 3), about(-1, 5)};
            case 24: return new int[] {about(0, 1), about(0, 90), about(0, 999999), 0};
            default: return new int[] {about(0, call == 29 ? 5 : call == 28 ? 2 : 1), 0, 0, 0};
        }
    }

    /** Bytes of a text that mostly tells a war, a -1 behind them. */
    private static List<Integer> textOf(HorseGift x) {
        StringBuilder text = new StringBuilder();
        String[] words = {"thing", "gift", "in", "gate", "ear", "scale", "watch", "horse", "thin", "A", "?", ";", "7"};
        int items = below(11);
        for (int i = 0; i < items; i++) {
            int word = below(20) == 0 ? below(words.length) : below(7);
            text.append(" ".repeat(below(8) == 0 ? 2 : 0)).append(words[word]);
            int count = below(30) == 0 ? below(6) : word < 2 ? 4 : word == 6 ? 3 : 2;
            for (int n = 0; n < count; n++) {
                text.append(n > 0 || below(3) > 0 ? " " : "");
                text.append(below(60) == 0 ? below(2000) : below(n == 0 ? 2 : 6));
            }
            text.append(below(10) == 0 ? " " : "").append(below(40) == 0 ? "" : ";");
        }
        if (below(12) == 0 && text.length() > 0) {
            text.setCharAt(below(text.length()), (char) (32 + below(96)));
        }
        List<Integer> bytes = new ArrayList<>();
        for (int i = 0; i < text.length(); i++) {
            bytes.add((int) text.charAt(i));
        }
        bytes.add(-1);
        return bytes;
    }
}
