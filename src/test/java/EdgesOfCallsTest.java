import java.util.ArrayList;
import java.util.List;

/**
 * What each promise refuses: every number of every call at both ends of what is told, one beyond them and far
 * beyond them, in a war of nothing, in one of some, and in a full one; and which refusal goes ahead of which.
 */
final class EdgesOfCallsTest {
    private static final Due due = new Due();

    /** A call with numbers that are as told, and how far each of them may go. */
    private record Row(int call, int[] numbers, int[][] ranges) {
    }

    private static HorseGift war(int things, int gifts) {
        HorseGift x = new HorseGift();
        for (int t = 0; t < things; t++) {
            x.thing(1 + t % 9, t, t, t);
        }
        for (int g = 0; g < gifts; g++) {
            x.gift(g % 6, g % 2, 10, 9);
        }
        return x;
    }

    private static int[] to(int from, int to) {
        return new int[] {from, to};
    }

    private static Row row(int call, int[] numbers, int[]... ranges) {
        return new Row(call, numbers, ranges);
    }

    private static int[] all(int... numbers) {
        return numbers;
    }

    private static List<Row> rows(int things, int gifts) {
        int[] thing = to(0, things - 1);
        int[] gift = to(0, gifts - 1);
        int[] city = to(0, 1);
        int[] hour = to(0, 5);
        int[] two = to(0, 1);
        int[] set = to(0, (1 << things) - 1);
        List<Row> rows = new ArrayList<>();
        rows.add(row(2, all(1, 1, 1, 1), to(1, 9), to(0, 20), to(0, 20), to(0, 20)));
        rows.add(row(3, all(1, 1, 1, 1), to(0, 5), city, to(0, 50), to(0, 30)));
        rows.add(row(4, all(0, 0), thing, gift));
        rows.add(row(5, all(0), thing));
        rows.add(row(6, all(1, 0, 1), city, to(0, 2), to(0, 30)));
        rows.add(row(6, all(1, 1, 1), city, to(0, 2), to(0, 50)));
        rows.add(row(6, all(1, 2, 1), city, to(0, 2), to(0, 200)));
        rows.add(row(7, all(1, 1, 1), city, hour, to(0, 20)));
        rows.add(row(8, all(1), to(0, 127)));
        rows.add(row(11, all(0, 1), gift, hour));
        rows.add(row(13, all(0, 1), gift, to(0, 6)));
        rows.add(row(14, all(0, 1), city, to(0, 4)));
        rows.add(row(15, all(0, 1, 1), gift, hour, two));
        rows.add(row(16, all(1, 1), city, two));
        rows.add(row(17, all(0, 1, 0), gift, to(0, 10)));
        rows.add(row(17, all(0, 1, 1), gift, to(0, 10)));
        rows.add(row(18, all(0, 0, 0), gift, set, set));
        rows.add(row(19, all(0, 1, 1), gift, hour, two));
        rows.add(row(20, all(0, 1), gift, two));
        rows.add(row(21, all(0, 1), gift, to(0, 99)));
        rows.add(row(22, all(0, 1), thing, hour));
        rows.add(row(23, all(1, 1, 1, 0), city, to(0, 400), to(1, 3), to(-1, Integer.MAX_VALUE)));
        rows.add(row(24, all(1, 1, 1), city, to(0, 90), to(0, 999999)));
        rows.add(row(25, all(1), two));
        rows.add(row(26, all(1), two));
        rows.add(row(27, all(1), two));
        rows.add(row(28, all(1), to(0, 2)));
        rows.add(row(29, all(1), to(0, 5)));
        return rows;
    }

    public static void main(String[] args) {
        int[][] wars = {{0, 0}, {1, 1}, {3, 2}, {8, 6}, {8, 0}, {0, 6}};
        due.says("Refused, .. BAD -2 a number is not as told; .. (where others are told they count as these)");
        for (int[] war : wars) {
            for (Row row : rows(war[0], war[1])) {
                beyond(row, war[0], war[1]);
            }
        }
        due.says("a number is not as told: both ends of what is told are as told");
        for (int[] war : wars) {
            for (Row row : rows(war[0], war[1])) {
                within(row, war[0], war[1]);
            }
        }
        badAheadOfNo();
        badAheadOfFull();
        nothingIsKeptOfRefused();
        theLastCalls();
        due.end("EdgesOfCallsTest");
    }

    private static int[] with(Row row, int place, int n) {
        int[] numbers = row.numbers.clone();
        numbers[place] = n;
        return numbers;
    }

    /** One number beyond its range, the others as told, as far as the war has any such. */
    private static void beyond(Row row, int things, int gifts) {
        for (int place = 0; place < row.ranges.length; place++) {
            int least = row.ranges[place][0];
            int most = row.ranges[place][1];
            due.bad(war(things, gifts), row.call, with(row, place, least - 1));
            due.bad(war(things, gifts), row.call, with(row, place, Integer.MIN_VALUE));
            if (most < Integer.MAX_VALUE) {
                due.bad(war(things, gifts), row.call, with(row, place, most + 1));
                due.bad(war(things, gifts), row.call, with(row, place, Integer.MAX_VALUE));
            }
        }
    }

    /** Both ends of each range: as told, so none is refused as BAD, if the war has such things and gifts at all. */
    private static void within(Row row, int things, int gifts) {
        for (int[] range : row.ranges) {
            if (range[0] > range[1]) {
                return;
            }
        }
        for (int place = 0; place < row.ranges.length; place++) {
            for (int n : row.ranges[place]) {
                int[] numbers = with(row, place, n);
                if (row.call == 6 && place == 1) {
                    numbers[2] = 0;
                }
                HorseGift x = war(things, gifts);
                Calls.answer(x, row.call, numbers);
                due.is("status(0) after " + Calls.spelled(row.call, numbers), x.status(0), 0);
            }
        }
    }

    /** Where a call is refused as NO, one number beyond its range makes it BAD. */
    private static void badAheadOfNo() {
        due.says("the first of: BAD -2 a number is not as told; NO -3 as told");
        HorseGift x = Due.told("thing 9 0 0 0;thing 9 0 0 0;gift 0 0 0 9;in 0 0;");
        due.no(x, 4, 0, 0);
        due.bad(x, 4, 0, 1);
        due.bad(x, 4, 0, -1);
        due.no(x, 4, 1, 0);
        due.bad(x, 4, 2, 0);
        due.no(x, 5, 1);
        due.no(x, 22, 0, 5);
        due.bad(x, 22, 0, 6);
        due.bad(x, 22, 0, -1);
        due.no(x, 27, 1);
        due.bad(x, 27, 2);
        due.no(x, 17, 0, 10, 1);
        due.bad(x, 17, 0, 11, 1);
        due.bad(x, 17, 1, 10, 1);
        x = new HorseGift();
        due.no(x, 24, 1, 90, 999999);
        due.bad(x, 24, 2, 90, 999999);
        due.bad(x, 24, -1, 90, 999999);
        due.bad(x, 24, 1, 91, 999999);
        due.bad(x, 24, 1, -1, 999999);
        due.bad(x, 24, 1, 90, 1000000);
        due.bad(x, 24, 1, 90, -1);
    }

    /** Where a call is refused as FULL, each number beyond its range makes it BAD. */
    private static void badAheadOfFull() {
        due.says("the first of: BAD -2 a number is not as told; .. FULL -4");
        full(2, all(1, 0, 0, 0), to(1, 9), to(0, 20), to(0, 20), to(0, 20));
        full(3, all(0, 0, 0, 0), to(0, 5), to(0, 1), to(0, 50), to(0, 30));
        HorseGift x = new HorseGift();
        for (int n = 0; n < 150; n++) {
            x.type(';');
        }
        due.full(x, 8, 0);
        due.full(x, 8, 127);
        due.bad(x, 8, 128);
        due.bad(x, 8, -1);
    }

    private static void full(int call, int[] numbers, int[]... ranges) {
        for (int place = 0; place < ranges.length; place++) {
            int[] more = numbers.clone();
            HorseGift x = war(8, 6);
            more[place] = ranges[place][0];
            due.full(x, call, more);
            more[place] = ranges[place][1];
            due.full(x, call, more);
            more[place] = ranges[place][0] - 1;
            due.bad(x, call, more);
            more[place] = ranges[place][1] + 1;
            due.bad(x, call, more);
        }
    }

    /** What a digest does not show: what may be undone, the images and the text's bytes. */
    private static void nothingIsKeptOfRefused() {
        due.says("Refused, changing nothing but STATUS");
        HorseGift x = Due.told("thing 9 0 0 3;thing 9 0 0 4;gift 0 0 0 9;gift 0 1 0 9;");
        x.put(0, 0);
        x.image(0);
        Due.type(x, "ear 0 1;");
        int[][] refused = {{2, 0, 0, 0, 0}, {3, 6, 0, 0, 0}, {4, 1, 0}, {4, 0, 1}, {4, 2, 0}, {5, 1}, {5, 2}, {6, 0, 0, 31},
            {7, 0, 0, 21}, {8, 128}, {8, -1}, {11, 2, 0}, {11, 0, 6}, {26, 2}, {26, -1}, {27, 1}, {27, 2}, {17, 0, 11, 0},
            {21, 0, 100}, {24, 0, 91, 0}, {23, 0, 401, 1, 0}};
        for (int[] r : refused) {
            int[] numbers = new int[r.length - 1];
            System.arraycopy(r, 1, numbers, 0, numbers.length);
            due.is(Calls.spelled(r[0], numbers) + " is refused", Calls.answer(x, r[0], numbers) < 0 ? 1 : 0, 1);
        }
        due.is("one may be undone", x.count(4), 1);
        due.is("it is", x.undo(), 1);
        due.is("nothing is inside", x.of(0, 5), 0);
        due.is("the image is there", x.from(0), 1);
        due.is("as it was kept", x.of(0, 5), 1);
        due.is("the other one is not", x.from(1), -3);
        due.is("the text has its bytes", x.read(), 1);
        due.is("and no more", x.count(5), 8);
        due.is("the ear of the text", x.about(0, 1), 1);
    }

    private static void theLastCalls() {
        due.says("An object is used for at most 512 calls after it has been made");
        HorseGift x = new HorseGift();
        x.gift(0, 0, 0, 16);
        for (int n = 1; n <= 509; n++) {
            x.send(0, 5);
        }
        due.is("509 refused: days", x.count(2), 509);
        due.is("the last call: what they cost", x.about(1, 3), 509);
        HorseGift y = new HorseGift();
        for (int n = 1; n <= 511; n++) {
            y.undo();
        }
        due.is("the last call: 511 refused", y.status(1), 511);
        HorseGift z = new HorseGift();
        for (int n = 1; n <= 511; n++) {
            z.type(n % 128);
        }
        due.is("the last call: a text that was full 361 times", z.status(2), 361);
        HorseGift w = new HorseGift();
        for (int n = 1; n <= 511; n++) {
            w.status(3 + n);
        }
        due.is("the last call: 511 of another what", w.status(0), 511);
    }
}
