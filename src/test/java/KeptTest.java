/** Promises 25 to 30: what there is, images of it, and what was refused. */
final class KeptTest {
    private static final Due due = new Due();

    public static void main(String[] args) {
        part();
        imageAndFrom();
        imageKeepsAll();
        imageWrong();
        status();
        count();
        digest();
        due.end("KeptTest");
    }

    private static void part() {
        HorseGift x = Due.told("thing 1 0 0 0;gift 0 0 0 0;");
        due.is("above at first", x.part(0), 0);
        due.is("below at first", x.part(1), 1);
        x.belief(0, 8, false);
        due.is("above", x.part(0), 1);
        due.is("below", x.part(1), 5);
        long digest = x.digest();
        due.refused(x, "part(2)", x.part(2), -2, 0, 0, digest);
        due.refused(x, "part(-1)", x.part(-1), -2, 0, 1, digest);
    }

    private static void imageAndFrom() {
        HorseGift x = new HorseGift();
        x.thing(1, 2, 3, 4);
        due.is("image(0)", x.image(0), 1);
        x.gift(0, 0, 1, 2);
        due.is("image(1)", x.image(1), 1);
        x.put(0, 0);
        due.is("from(0)", x.from(0), 1);
        due.is("gifts", x.count(1), 0);
        due.is("from(1)", x.from(1), 1);
        due.is("gifts", x.count(1), 1);
        due.is("things in gifts", x.count(3), 0);
        x.put(0, 0);
        x.image(0);
        x.send(0, 0);
        due.is("an image kept anew", x.from(0), 1);
        due.is("things in gifts", x.count(3), 1);
        due.is("what is done later does not change it", x.from(1), 1);
        due.is("things in gifts", x.count(3), 0);
    }

    private static void imageKeepsAll() {
        HorseGift x = Due.told("thing 1 2 3 4;gift 0 0 1 2;gift 2 1 1 30;gate 0 9;ear 1 8;scale 0 7;watch 1 3 2;");
        x.tell(1, 12);
        x.put(0, 0);
        x.send(0, 3);
        x.send(1, 3);
        x.clear();
        long digest = x.digest();
        x.image(1);
        x.thing(1, 1, 1, 1);
        x.gift(0, 0, 0, 0);
        x.send(0, 0);
        x.put(1, 1);
        x.tell(1, 13);
        x.tell(0, 14);
        x.city(0, 0, 1);
        x.city(1, 1, 1);
        x.city(0, 2, 1);
        x.watch(1, 3, 1);
        due.is("from(1)", x.from(1), 1);
        due.is("all is as it was", x.digest(), digest);
        x.undo();
        x.undo();
        due.is("what may be undone is kept", x.of(0, 5), 1);
        due.is("days", x.count(2), 0);

        x.belief(0, 2, false);
        x.type('a');
        x.thing(0, 0, 0, 0);
        x.image(0);
        x.belief(0, 7, false);
        x.type('b');
        x.thing(0, 0, 0, 0);
        x.from(0);
        due.is("not the fraction", x.part(0), 3);
        due.is("not the text", x.count(5), 2);
        due.is("not the status", x.status(0), 2);
        Due.read(x, "");
        due.is("not the images", x.from(1), 1);
        due.is("the other image's days", x.count(2), 2);
    }

    private static void imageWrong() {
        HorseGift x = new HorseGift();
        long digest = x.digest();
        due.refused(x, "image(2)", x.image(2), -2, 0, 0, digest);
        due.refused(x, "image(-1)", x.image(-1), -2, 0, 1, digest);
        due.refused(x, "from(2)", x.from(2), -2, 0, 2, digest);
        due.refused(x, "from(-1)", x.from(-1), -2, 0, 3, digest);
        due.refused(x, "none was kept", x.from(0), -3, 1, 0, digest);
        x.image(0);
        due.refused(x, "none was kept in the other", x.from(1), -3, 1, 1, digest);
        due.is("one was kept", x.from(0), 1);
    }

    private static void status() {
        HorseGift x = new HorseGift();
        x.undo();
        x.undo();
        x.send(0, 0);
        x.hide(0, 0, 0);
        x.game(0, 0, 0);
        x.carts(9, 0, 0, 0);
        x.out(0);
        for (int i = 0; i < 9; i++) {
            x.thing(1, 1, 1, 1);
        }
        due.is("BAD", x.status(0), 5);
        due.is("NO", x.status(1), 2);
        due.is("FULL", x.status(2), 1);
        due.is("another what", x.status(3), -1);
        due.is("another what below", x.status(-1), -1);
        due.is("BAD, these too", x.status(0), 7);
        due.is("NO", x.status(1), 2);
        due.is("FULL", x.status(2), 1);
    }

    private static void count() {
        HorseGift x = Due.told("thing 1 1 1 1;thing 1 1 1 1;thing 1 1 1 1;gift 0 0 0 9;gift 0 1 0 9;");
        x.put(0, 0);
        x.put(1, 1);
        x.send(0, 0);
        due.is("things", x.count(0), 3);
        due.is("gifts", x.count(1), 2);
        due.is("days", x.count(2), 1);
        due.is("things in gifts", x.count(3), 1);
        due.is("may be undone", x.count(4), 3);
        due.is("bytes", x.count(5), 68);
        long digest = x.digest();
        due.refused(x, "count(6)", x.count(6), -2, 0, 0, digest);
        due.refused(x, "count(-1)", x.count(-1), -2, 0, 1, digest);
    }

    private static long over(long h, long... values) {
        for (long v : values) {
            h = 31 * h + v;
        }
        return h;
    }

    private static void digest() {
        HorseGift x = new HorseGift();
        long h = over(863, 0, 0, 0, 0, 0, 0, 15, 10, 60, 0, 0, 0, 0, 0, 0, 0, 15, 10, 60, 0, 0, 0, 0, 0, 0, 0, 0, 1);
        due.is("digest of a new one", x.digest(), h);
        x.thing(9, 1, 2, 3);
        x.thing(2, 4, 5, 20);
        x.gift(4, 1, 6, 7);
        x.gift(0, 1, 8, 16);
        x.tell(0, 55);
        x.put(1, 0);
        x.city(0, 0, 20);
        x.city(1, 1, 21);
        x.city(1, 2, 22);
        for (int hour = 0; hour < 6; hour++) {
            x.watch(1, hour, hour + 1);
        }
        x.send(0, 0);
        x.put(1, 0);
        x.city(0, 0, 15);
        x.send(1, 0);
        x.send(1, 0);
        x.city(0, 0, 20);
        x.belief(0, 1, false);
        x.type('a');
        h = over(863, 2, 2, 3, 1, 5, 1);
        h = over(h, 9, 1, 2, 3, -1, 2, 4, 5, 20, 0);
        h = over(h, 4, 0, 6, 7, 55, 0, 1, 8, 16, 0);
        h = over(h, 20, 10, 60, 0, 0, 0, 0, 0, 0, 24, 15, 21, 22, 1, 2, 3, 4, 5, 6, 0, 81, 100);
        due.is("digest", x.digest(), h);
        x.of(9, 9);
        due.is("status is not in it", x.digest(), h);
    }
}
