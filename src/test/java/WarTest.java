/** Promises 1 to 10: a war is made, by calls and by a text. */
final class WarTest {
    private static final Due due = new Due();

    public static void main(String[] args) {
        newObject();
        thing();
        gift();
        put();
        out();
        city();
        watch();
        type();
        clear();
        readWar();
        readFaults();
        readRefused();
        due.end("WarTest");
    }

    private static void newObject() {
        HorseGift x = new HorseGift();
        for (int what = 0; what <= 5; what++) {
            due.is("new: count(" + what + ")", x.count(what), 0);
        }
        for (int city = 0; city <= 1; city++) {
            due.is("new: gate", x.about(city, 0), 15);
            due.is("new: ear", x.about(city, 1), 10);
            due.is("new: scale", x.about(city, 2), 60);
            due.is("new: lost", x.about(city, 3), 0);
            due.is("new: gifts", x.about(city, 4), 0);
            for (int hour = 0; hour <= 5; hour++) {
                due.is("new: watch", x.watch(city, hour, 0), 0);
            }
        }
        for (int what = 0; what <= 2; what++) {
            due.is("new: status(" + what + ")", x.status(what), 0);
        }
        due.is("new: part(0)", x.part(0), 0);
        due.is("new: part(1)", x.part(1), 1);
        due.is("new: undo()", x.undo(), -3);
        due.is("new: from(0)", x.from(0), -3);
        due.is("new: from(1)", x.from(1), -3);
        due.is("NONE", HorseGift.NONE, -1);
        due.is("BAD", HorseGift.BAD, -2);
        due.is("NO", HorseGift.NO, -3);
        due.is("FULL", HorseGift.FULL, -4);
    }

    private static void thing() {
        HorseGift x = new HorseGift();
        int[][] bad = {{0, 1, 1, 1}, {10, 1, 1, 1}, {1, -1, 1, 1}, {1, 21, 1, 1},
            {1, 1, -1, 1}, {1, 1, 21, 1}, {1, 1, 1, -1}, {1, 1, 1, 21}, {Integer.MIN_VALUE, 1, 1, 1}};
        long digest = x.digest();
        for (int[] a : bad) {
            due.refused(x, "thing out of range", x.thing(a[0], a[1], a[2], a[3]), -2, 0, x.status(0) - 1, digest);
        }
        due.is("thing(1, 0, 0, 0)", x.thing(1, 0, 0, 0), 0);
        due.is("thing(9, 20, 20, 20)", x.thing(9, 20, 20, 20), 1);
        for (int n = 2; n < 8; n++) {
            due.is("thing " + n, x.thing(n, n, n, n), n);
        }
        digest = x.digest();
        due.refused(x, "the ninth thing", x.thing(1, 1, 1, 1), -4, 2, 0, digest);
        due.refused(x, "BAD ahead of FULL", x.thing(0, 1, 1, 1), -2, 0, bad.length, digest);
        due.is("things", x.count(0), 8);
    }

    private static void gift() {
        HorseGift x = new HorseGift();
        int[][] bad = {{-1, 0, 0, 0}, {6, 0, 0, 0}, {0, -1, 0, 0}, {0, 2, 0, 0},
            {0, 0, -1, 0}, {0, 0, 51, 0}, {0, 0, 0, -1}, {0, 0, 0, 31}};
        long digest = x.digest();
        for (int[] a : bad) {
            due.refused(x, "gift out of range", x.gift(a[0], a[1], a[2], a[3]), -2, 0, x.status(0) - 1, digest);
        }
        for (int n = 0; n < 6; n++) {
            due.is("gift " + n, x.gift(n, n % 2, 10 * n, 6 * n), n);
            due.is("its kind", x.of(n, 0), n);
            due.is("its city", x.of(n, 1), n % 2);
        }
        digest = x.digest();
        due.refused(x, "the seventh gift", x.gift(0, 0, 0, 0), -4, 2, 0, digest);
        due.refused(x, "BAD ahead of FULL", x.gift(6, 0, 0, 0), -2, 0, bad.length, digest);
        due.is("gifts", x.count(1), 6);
        due.is("told of a new gift", x.tell(5, 3), 0);
    }

    private static void put() {
        HorseGift x = Due.told("thing 4 1 1 1;thing 6 1 1 1;thing 1 1 1 1;gift 0 0 0 10;gift 0 1 0 0;");
        due.is("put(0, 0)", x.put(0, 0), 1);
        due.is("room to the brim", x.put(1, 0), 1);
        due.is("both in it", x.of(0, 5), 3);
        long digest = x.digest();
        due.refused(x, "no room", x.put(2, 0), -3, 1, 0, digest);
        due.refused(x, "no room at all", x.put(2, 1), -3, 1, 1, digest);
        due.refused(x, "in it already", x.put(0, 0), -3, 1, 2, digest);
        due.refused(x, "in another", x.put(0, 1), -3, 1, 3, digest);
        due.refused(x, "no such thing", x.put(3, 0), -2, 0, 0, digest);
        due.refused(x, "no such thing below", x.put(-1, 0), -2, 0, 1, digest);
        due.refused(x, "no such gift", x.put(2, 2), -2, 0, 2, digest);
        due.refused(x, "no such gift below", x.put(2, -1), -2, 0, 3, digest);
        due.is("things in gifts", x.count(3), 2);
        due.is("two may be undone", x.count(4), 2);
    }

    private static void out() {
        HorseGift x = Due.told("thing 1 1 1 1;thing 1 1 1 1;gift 0 0 0 9;gift 0 1 0 9;in 1 1;");
        due.is("out(1)", x.out(1), 1);
        due.is("it is empty", x.of(1, 5), 0);
        due.is("out may be undone", x.count(4), 1);
        long digest = x.digest();
        due.refused(x, "in none", x.out(1), -3, 1, 0, digest);
        due.refused(x, "no such thing", x.out(2), -2, 0, 0, digest);
        due.refused(x, "no such thing below", x.out(-1), -2, 0, 1, digest);
        x.put(0, 0);
        due.is("out of gift 0", x.out(0), 0);
    }

    private static void city() {
        HorseGift x = new HorseGift();
        int[] most = {30, 50, 200};
        int[] first = {15, 10, 60};
        for (int what = 0; what < 3; what++) {
            due.is("the first", x.city(1, what, most[what]), first[what]);
            due.is("the most", x.about(1, what), most[what]);
            due.is("the other city's", x.about(0, what), first[what]);
            long digest = x.digest();
            due.refused(x, "more than the most", x.city(1, what, most[what] + 1), -2, 0, 2 * what, digest);
            due.refused(x, "below 0", x.city(1, what, -1), -2, 0, 2 * what + 1, digest);
            due.is("what it was", x.city(1, what, 0), most[what]);
            due.is("none", x.about(1, what), 0);
        }
        long digest = x.digest();
        due.refused(x, "another what", x.city(0, 3, 0), -2, 0, 6, digest);
        due.refused(x, "another what below", x.city(0, -1, 0), -2, 0, 7, digest);
        due.refused(x, "another city", x.city(2, 0, 0), -2, 0, 8, digest);
        due.refused(x, "another city below", x.city(-1, 0, 0), -2, 0, 9, digest);
    }

    private static void watch() {
        HorseGift x = new HorseGift();
        due.is("watch(0, 5, 20)", x.watch(0, 5, 20), 0);
        due.is("watch(1, 0, 7)", x.watch(1, 0, 7), 0);
        due.is("what it was", x.watch(0, 5, 0), 20);
        due.is("what it was in the other city", x.watch(1, 0, 1), 7);
        long digest = x.digest();
        int[][] bad = {{-1, 0, 0}, {2, 0, 0}, {0, -1, 0}, {0, 6, 0}, {0, 0, -1}, {0, 0, 21}};
        for (int[] a : bad) {
            due.refused(x, "watch out of range", x.watch(a[0], a[1], a[2]), -2, 0, x.status(0) - 1, digest);
        }
    }

    private static void type() {
        HorseGift x = new HorseGift();
        long digest = x.digest();
        due.refused(x, "type(-1)", x.type(-1), -2, 0, 0, digest);
        due.refused(x, "type(128)", x.type(128), -2, 0, 1, digest);
        due.is("type(0)", x.type(0), 1);
        due.is("type(127)", x.type(127), 2);
        for (int n = 3; n <= 150; n++) {
            due.is("type " + n, x.type(' '), n);
        }
        digest = x.digest();
        due.refused(x, "a byte too much", x.type(' '), -4, 2, 0, digest);
        due.refused(x, "BAD ahead of FULL", x.type(128), -2, 0, 2, digest);
        due.is("bytes", x.count(5), 150);
    }

    private static void clear() {
        HorseGift x = new HorseGift();
        due.is("clear() of none", x.clear(), 0);
        x.type('a');
        x.type('b');
        due.is("clear()", x.clear(), 2);
        due.is("bytes", x.count(5), 0);
        due.is("type goes on from none", x.type('a'), 1);
    }

    private static void readWar() {
        HorseGift x = new HorseGift();
        x.thing(1, 1, 1, 1);
        x.gift(1, 0, 1, 1);
        x.tell(0, 9);
        x.city(0, 0, 3);
        x.watch(1, 2, 3);
        x.put(0, 0);
        x.send(0, 0);
        x.belief(0, 3, false);
        x.image(0);
        due.is("an empty text", x.read(), 0);
        for (int what = 0; what <= 4; what++) {
            due.is("a war anew: count(" + what + ")", x.count(what), 0);
        }
        due.is("a war anew: gate", x.about(0, 0), 15);
        due.is("a war anew: watch", x.watch(1, 2, 0), 0);
        due.is("a war anew: lost", x.about(1, 3), 0);
        due.is("the fraction stays", x.part(1), 10);
        due.is("the image stays", x.from(0), 1);
        due.is("its war", x.count(2), 1);

        String text = "  thing 9 20 20 20 ;thing1 007 0 3;gift 4 1 50 30;in 1 0;in0 0;"
            + "gate 0 30;ear 1 50;scale 0 200;watch 1 5 20;  ";
        due.is("a war", Due.read(x, text), 9);
        due.is("things", x.count(0), 2);
        due.is("gifts", x.count(1), 1);
        due.is("in it", x.of(0, 5), 3);
        due.is("weighs", x.of(0, 2), 77);
        due.is("gate", x.about(0, 0), 30);
        due.is("ear", x.about(1, 1), 50);
        due.is("scale", x.about(0, 2), 200);
        due.is("watch", x.watch(1, 5, 0), 20);
        due.is("nothing may be undone", x.count(4), 0);
        due.is("the text stays", x.count(5), text.length());
        due.is("told of a gift anew", x.tell(0, 1), 0);
        due.is("read anew", x.read(), 9);
        due.is("told of a gift anew", x.tell(0, 0), 0);
        due.is("things anew", x.count(0), 2);
        x.tell(0, 8);
        x.send(0, 0);
        x.send(0, 0);
        x.years(0, 9, 9);
        due.is("read after years", x.read(), 9);
        due.is("things anew", x.count(0), 2);
        due.is("gifts anew", x.count(1), 1);
        due.is("days anew", x.count(2), 0);
        due.is("lost anew", x.about(0, 3) + x.about(1, 3), 0);
        due.is("told of a gift anew", x.tell(0, 0), 0);
        x.watch(0, 0, 3);
        x.watch(0, 1, 3);
        x.years(0, 9, 9);
        due.is("read after years", x.read(), 9);
        due.is("watches anew", x.watch(0, 0, 0) + x.watch(0, 1, 0), 0);
        due.is("only blanks", Due.read(x, "   "), 0);
        due.is("most items of 150 bytes", Due.read(x, "ear0 0;ear0 1;ear0 2;ear0 3;ear0 4;ear0 5;ear0 6;"
            + "ear0 0;ear0 1;ear0 2;ear0 3;ear0 4;ear0 5;ear0 6;ear0 0;ear0 1;ear0 2;ear0 3;ear0 4;ear0 5;ear0 6;"), 21);
        due.is("the last one", x.about(0, 1), 6);
        StringBuilder shortest = new StringBuilder();
        for (int i = 0; i < 25; i++) {
            shortest.append("in0 0;");
        }
        due.is("150 bytes of the shortest", Due.read(x, shortest.toString()), -1000);
        due.is("status is of calls alone", x.status(0) + x.status(1) + x.status(2), 0);
    }

    private static void fault(String text, int place) {
        HorseGift x = new HorseGift();
        x.thing(1, 2, 3, 4);
        Due.read(x, "");
        x.thing(4, 3, 2, 1);
        due.is("fault of '" + text + "'", Due.read(x, text), -10 - place);
        due.is("nothing changes", x.count(0), 1);
        due.is("no status", x.status(0) + x.status(1) + x.status(2), 0);
    }

    private static void readFaults() {
        fault("horse 1;", 0);
        fault("thin 1 1 1 1;", 0);
        fault("things 1 1 1 1;", 0);
        fault(" Gate 0 1;", 1);
        fault("hear 0 1;", 0);
        fault("bate 0 1;", 0);
        fault("on 0 1;", 0);
        fault("gifs 1 1 1 1;", 0);
        fault("ear 0 1;;", 8);
        fault(";", 0);
        fault("7", 0);
        fault("ear 0 1;  e", 10);
        fault("ear 0;", 5);
        fault("ear ;", 4);
        fault("ear ear 1;", 4);
        fault("ear 0 1 2;", 8);
        fault("ear 0 1 ear 0 1;", 8);
        fault("ear 0 1", 7);
        fault("ear 0 1  ", 9);
        fault("ear 0", 5);
        fault("ear", 3);
        fault("e", 0);
        fault("ear 0 1234;", 6);
        fault("ear 0 0001;", 6);
        fault("ear 12345678901 1;", 4);
        fault("ear 0 1,;", 7);
        fault("ear 0 1a;", 7);
        fault("ear\t0 1;", 3);
        fault("ear 0 -1;", 6);
        fault("watch 0 1;", 9);
        fault("thing 1 1 1;", 11);
        fault("gift 1 1 1 1 1;", 13);
        fault("in 0 0 0;", 7);
        fault("gate 9 9;x", 9);
        fault(" \0", 1);
        fault("ear 0 1\177;", 7);
        fault("in0 0;in0 0;in0 0;in0 0;in0 0;in0 0;in0 0;in0 0;in0 0;in0 0;in0 0;in0 0;in0 0;in0 0;in0 0;"
            + "in0 0;in0 0;in0 0;in0 0;in0 0;in0 0;in0 0;in0 0;in0 0;in0 0", 149);
    }

    private static void refused(String text, int item) {
        HorseGift x = new HorseGift();
        x.gift(3, 1, 3, 9);
        x.thing(4, 3, 2, 1);
        x.put(0, 0);
        Due.read(x, "?");
        x.clear();
        for (int i = 0; i < text.length(); i++) {
            x.type(text.charAt(i));
        }
        long digest = x.digest();
        due.is("refused in '" + text + "'", x.read(), -1000 - item);
        due.is("nothing changes", x.digest(), digest);
        due.is("what may be undone stays", x.undo(), 1);
        due.is("items are no calls", x.status(0) + x.status(1) + x.status(2), 0);
    }

    private static void readRefused() {
        refused("thing 0 1 1 1;", 0);
        refused("thing 1 1 1 1;thing 10 1 1 1;", 1);
        refused("gift 6 0 0 0;", 0);
        refused("in 0 0;", 0);
        refused("thing 1 1 1 1;in 0 0;gift 0 0 0 9;", 1);
        refused("thing 2 1 1 1;gift 0 0 0 1;in 0 0;", 2);
        refused("thing 1 1 1 1;gift 0 0 0 9;in 0 0;in 0 0;", 3);
        refused("gate 0 31;", 0);
        refused("ear 0 51;", 0);
        refused("scale 0 201;", 0);
        refused("scale 2 1;", 0);
        refused("ear 0 50;watch 0 6 1;", 1);
        refused("watch 0 5 21;ear 0 99;", 0);
        refused("gift 0 0 0 0;gift 0 0 0 0;gift 0 0 0 0;gift 0 0 0 0;gift 0 0 0 0;gift 0 0 0 0;gift 0 0 0 0;", 6);
        refused("thing1 1 1 1;thing1 1 1 1;thing1 1 1 1;thing1 1 1 1;thing1 1 1 1;"
            + "thing1 1 1 1;thing1 1 1 1;thing1 1 1 1;thing1 1 1 1;", 8);
        due.is("a fault goes ahead of what is refused", Due.read(new HorseGift(), "ear 0 99;ear 1"), -24);
    }
}
