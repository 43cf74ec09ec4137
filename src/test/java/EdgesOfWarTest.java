/** The sentences of 'Terms', 1, that name an edge: things, gifts, kinds, cities, what passes, what is sent. */
final class EdgesOfWarTest {
    private static final Due due = new Due();
    private static final int PLAIN = 0, DOUBLE = 1, LIVING = 2, LAW = 3, RETURNED = 4, ECHO = 5;
    private static final int CITY = 1, WEIGHS = 2, SOUNDS = 3, HARM = 4, INSIDE = 5, PASSES = 6;

    public static void main(String[] args) {
        newObject();
        thingsAsTheyCome();
        whatThingsAre();
        giftsAsTheyCome();
        whatGiftsAre();
        inOneGiftAtMost();
        noMoreThanRoom();
        plain();
        doubleSounds();
        livingWeighs();
        livingSounds();
        lawWeighs();
        lawHarm();
        returned();
        echoSounds();
        echoHarm();
        gates();
        ears();
        scales();
        watches();
        noMoreThanGate();
        lessThanEar();
        noMoreThanScale();
        losesAboveWatch();
        inNoneThen();
        refusedStays();
        days();
        ofAndAbout();
        due.end("EdgesOfWarTest");
    }

    /** A war of one gift with room for all, and things of size 1 in it, each of a weight, a sound and a harm. */
    private static HorseGift gift(int kind, int empty, int[]... things) {
        HorseGift x = new HorseGift();
        x.gift(kind, 0, empty, 8);
        for (int[] t : things) {
            x.put(x.thing(1, t[0], t[1], t[2]), 0);
        }
        return x;
    }

    private static int[] weight(int n) {
        return new int[] {n, 0, 0};
    }

    private static int[] sound(int n) {
        return new int[] {0, n, 0};
    }

    private static int[] harm(int n) {
        return new int[] {0, 0, n};
    }

    private static int[][] eightOf(int weight, int sound, int harm) {
        int[][] eight = new int[8][];
        for (int t = 0; t < 8; t++) {
            eight[t] = new int[] {weight, sound, harm};
        }
        return eight;
    }

    private static void newObject() {
        due.says("A new object: No THINGS, no GIFTS.");
        HorseGift x = new HorseGift();
        due.is("things", x.count(0), 0);
        due.is("gifts", x.count(1), 0);
        due.bad(x, 4, 0, 0);
        due.bad(x, 5, 0);
        due.bad(x, 13, 0, 0);
        due.is("gifts of city 0", x.about(0, 4), 0);
        due.is("gifts of city 1", x.about(1, 4), 0);
    }

    private static void thingsAsTheyCome() {
        due.says("THINGS 0 .. 7, as they come; FULL: 8.");
        HorseGift x = new HorseGift();
        x.gift(0, 0, 0, 8);
        for (int n = 0; n < 8; n++) {
            due.bad(x, 4, n, 0);
            due.is("thing", x.thing(1, 0, 0, 0), n);
            due.is("it is there", x.put(n, 0), 1);
        }
        due.full(x, 2, 1, 0, 0, 0);
        due.full(x, 2, 9, 20, 20, 20);
        due.bad(x, 5, 8);
        due.is("the last one", x.out(7), 0);
        due.full(x, 2, 1, 0, 0, 0);
    }

    private static void whatThingsAre() {
        due.says("SIZE (1 .. 9)");
        for (int size = 1; size <= 9; size += 8) {
            HorseGift x = new HorseGift();
            due.is("size " + size, x.thing(size, 0, 0, 0), 0);
            x.gift(PLAIN, 0, 0, size - 1);
            x.gift(PLAIN, 0, 0, size);
            due.no(x, 4, 0, 0);
            due.is("as much room", x.put(0, 1), 1);
        }
        due.bad(new HorseGift(), 2, 0, 1, 1, 1);
        due.bad(new HorseGift(), 2, 10, 1, 1, 1);
        due.says("WEIGHT (0 .. 20), SOUND (0 .. 20), HARM (0 .. 20)");
        for (int n = 0; n <= 20; n += 20) {
            due.is("weight", gift(PLAIN, 0, weight(n)).of(0, WEIGHS), n);
            due.is("sound", gift(PLAIN, 0, sound(n)).of(0, SOUNDS), n);
            due.is("harm", gift(PLAIN, 0, harm(n)).of(0, HARM), n);
        }
        for (int n = -1; n <= 21; n += 22) {
            due.bad(new HorseGift(), 2, 1, n, 1, 1);
            due.bad(new HorseGift(), 2, 1, 1, n, 1);
            due.bad(new HorseGift(), 2, 1, 1, 1, n);
        }
    }

    private static void giftsAsTheyCome() {
        due.says("GIFTS 0 .. 5, as they come; FULL: 6.");
        HorseGift x = new HorseGift();
        for (int n = 0; n < 6; n++) {
            due.bad(x, 13, n, 0);
            due.is("gift", x.gift(n, n % 2, 0, 0), n);
            due.is("it is there", x.of(n, 0), n);
        }
        due.full(x, 3, 0, 0, 0, 0);
        due.full(x, 3, 5, 1, 50, 30);
        due.bad(x, 13, 6, 0);
    }

    private static void whatGiftsAre() {
        due.says("a KIND, a CITY that has it (0, 1), what it weighs EMPTY (0 .. 50), ROOM (0 .. 30)");
        HorseGift x = new HorseGift();
        x.gift(0, 0, 0, 0);
        x.gift(5, 1, 50, 30);
        due.is("kind", x.of(0, 0), 0);
        due.is("kind", x.of(1, 0), 5);
        due.is("city", x.of(0, CITY), 0);
        due.is("city", x.of(1, CITY), 1);
        due.is("weighs", x.of(0, WEIGHS), 0);
        due.is("weighs", x.of(1, WEIGHS), 50);
        x.city(0, 0, 29);
        x.city(0, 1, 50);
        due.is("its room is 30", x.of(1, PASSES), 0);
        x.city(0, 0, 30);
        due.is("its room is 30", x.of(1, PASSES), 1);
        int[][] beyond = {{-1, 0, 0, 0}, {6, 0, 0, 0}, {0, -1, 0, 0}, {0, 2, 0, 0}, {0, 0, -1, 0}, {0, 0, 51, 0},
            {0, 0, 0, -1}, {0, 0, 0, 31}};
        for (int[] a : beyond) {
            due.bad(new HorseGift(), 3, a);
        }
    }

    private static void inOneGiftAtMost() {
        due.says("A THING is in one GIFT at most (in none at first)");
        HorseGift x = Due.told("gift 0 0 0 30;gift 0 1 0 30;thing 1 0 0 0;thing 1 0 0 0;");
        due.no(x, 5, 0);
        due.no(x, 5, 1);
        due.is("put", x.put(0, 1), 1);
        due.no(x, 4, 0, 1);
        due.no(x, 4, 0, 0);
        due.is("out", x.out(0), 1);
        due.no(x, 5, 0);
        due.is("put into another", x.put(0, 0), 1);
        due.is("things in gifts", x.count(3), 1);
    }

    private static void noMoreThanRoom() {
        due.says("SIZES of what is in a GIFT are no more than ROOM");
        HorseGift x = Due.told("gift 0 0 0 30;gift 0 0 0 0;thing9 0 0 0;thing9 0 0 0;thing9 0 0 0;thing4 0 0 0;"
            + "thing3 0 0 0;thing1 0 0 0;");
        due.no(x, 4, 5, 1);
        due.is("nine", x.put(0, 0), 1);
        due.is("eighteen", x.put(1, 0), 1);
        due.is("twenty-seven", x.put(2, 0), 1);
        due.no(x, 4, 3, 0);
        due.is("thirty", x.put(4, 0), 1);
        due.no(x, 4, 5, 0);
        due.is("three out", x.out(4), 0);
        due.no(x, 4, 3, 0);
        due.is("one in", x.put(5, 0), 1);
        due.no(x, 4, 4, 0);
    }

    private static void plain() {
        due.says("PLAIN: EMPTY and WEIGHTS together; SOUNDS together; HARMS together");
        HorseGift none = gift(PLAIN, 0);
        HorseGift all = gift(PLAIN, 50, eightOf(20, 20, 20));
        due.is("nothing weighs", none.of(0, WEIGHS), 0);
        due.is("nothing sounds", none.of(0, SOUNDS), 0);
        due.is("nothing harms", none.of(0, HARM), 0);
        due.is("all weighs", all.of(0, WEIGHS), 210);
        due.is("all sounds", all.of(0, SOUNDS), 160);
        due.is("all harms", all.of(0, HARM), 160);
    }

    private static void doubleSounds() {
        due.says("DOUBLE (under PLAIN): SOUNDS half of that (cut)");
        int[][] halves = {{0, 0}, {1, 0}, {2, 1}, {3, 1}, {19, 9}, {20, 10}};
        for (int[] h : halves) {
            due.is("half of " + h[0], gift(DOUBLE, 0, sound(h[0])).of(0, SOUNDS), h[1]);
        }
        due.is("an empty one", gift(DOUBLE, 7).of(0, SOUNDS), 0);
        due.is("of both together", gift(DOUBLE, 0, sound(1), sound(1)).of(0, SOUNDS), 1);
        due.is("of all", gift(DOUBLE, 0, eightOf(20, 20, 20)).of(0, SOUNDS), 80);
        due.is("weighs as a plain one", gift(DOUBLE, 50, eightOf(20, 20, 20)).of(0, WEIGHS), 210);
        due.is("harms as a plain one", gift(DOUBLE, 50, eightOf(20, 20, 20)).of(0, HARM), 160);
    }

    private static void livingWeighs() {
        due.says("LIVING (under PLAIN): WEIGHS 1 more for each DAY gone by (9 at most)");
        int[] kinds = {LIVING, ECHO};
        for (int kind : kinds) {
            HorseGift x = gift(kind, 50, eightOf(20, 20, 20));
            x.gift(PLAIN, 0, 0, 16);
            int[] more = {0, 1, 2, 3, 4, 5, 6, 7, 8, 9, 9, 9};
            for (int day = 0; day < more.length; day++) {
                due.is("kind " + kind + " on day " + day, x.of(0, WEIGHS), 210 + more[day]);
                x.send(1, 0);
            }
        }
        HorseGift y = gift(LIVING, 0);
        y.gift(PLAIN, 0, 0, 16);
        y.send(1, 0);
        due.is("an empty one", y.of(0, WEIGHS), 1);
        y.undo();
        due.is("a day that is undone", y.of(0, WEIGHS), 0);
    }

    private static void livingSounds() {
        due.says("LIVING (under PLAIN): .. SOUNDS 3 more");
        due.is("an empty one", gift(LIVING, 0).of(0, SOUNDS), 3);
        due.is("of nothing", gift(LIVING, 0, sound(0)).of(0, SOUNDS), 3);
        due.is("of all", gift(LIVING, 0, eightOf(20, 20, 20)).of(0, SOUNDS), 163);
        due.is("harms as a plain one", gift(LIVING, 0, eightOf(20, 20, 20)).of(0, HARM), 160);
    }

    private static void lawWeighs() {
        due.says("LAW (under PLAIN): WEIGHS EMPTY alone");
        due.is("of nothing, full", gift(LAW, 0, eightOf(20, 20, 20)).of(0, WEIGHS), 0);
        due.is("of fifty, full", gift(LAW, 50, eightOf(20, 20, 20)).of(0, WEIGHS), 50);
        due.is("of fifty, empty", gift(LAW, 50).of(0, WEIGHS), 50);
        due.is("sounds as a plain one", gift(LAW, 50, eightOf(20, 20, 20)).of(0, SOUNDS), 160);
    }

    private static void lawHarm() {
        due.says("LAW (under PLAIN): .. HARM half (cut)");
        int[][] halves = {{0, 0}, {1, 0}, {2, 1}, {3, 1}, {19, 9}, {20, 10}};
        for (int[] h : halves) {
            due.is("half of " + h[0], gift(LAW, 0, harm(h[0])).of(0, HARM), h[1]);
        }
        due.is("an empty one", gift(LAW, 7).of(0, HARM), 0);
        due.is("of both together", gift(LAW, 0, harm(1), harm(1)).of(0, HARM), 1);
        due.is("of all", gift(LAW, 0, eightOf(20, 20, 20)).of(0, HARM), 80);
    }

    private static void returned() {
        due.says("RETURNED (under DOUBLE): HARM and 2, if anything is in it");
        due.is("an empty one", gift(RETURNED, 50).of(0, HARM), 0);
        due.is("a harmless thing", gift(RETURNED, 0, harm(0)).of(0, HARM), 2);
        due.is("two things, two more once", gift(RETURNED, 0, harm(0), harm(1)).of(0, HARM), 3);
        due.is("of all", gift(RETURNED, 0, eightOf(20, 20, 20)).of(0, HARM), 162);
        HorseGift x = gift(RETURNED, 0, harm(5));
        x.out(0);
        due.is("empty anew", x.of(0, HARM), 0);
        due.says("RETURNED (under DOUBLE)");
        due.is("half of 1", gift(RETURNED, 0, sound(1)).of(0, SOUNDS), 0);
        due.is("half of 3", gift(RETURNED, 0, sound(3)).of(0, SOUNDS), 1);
        due.is("weighs as a plain one", gift(RETURNED, 50, eightOf(20, 20, 20)).of(0, WEIGHS), 210);
    }

    private static void echoSounds() {
        due.says("ECHO (under LIVING): SOUNDS twice as LIVING");
        due.is("an empty one", gift(ECHO, 0).of(0, SOUNDS), 6);
        due.is("of 1", gift(ECHO, 0, sound(1)).of(0, SOUNDS), 8);
        due.is("of all", gift(ECHO, 0, eightOf(20, 20, 20)).of(0, SOUNDS), 326);
    }

    private static void echoHarm() {
        due.says("ECHO (under LIVING): .. HARM nothing in DAYS of an odd number");
        HorseGift x = gift(ECHO, 0, eightOf(0, 0, 20));
        x.gift(PLAIN, 0, 0, 16);
        for (int day = 0; day <= 11; day++) {
            due.is("on day " + day, x.of(0, HARM), day % 2 == 0 ? 160 : 0);
            x.send(1, 0);
        }
        due.is("an even day", x.of(0, HARM), 160);
        x.undo();
        due.is("a day that is undone", x.of(0, HARM), 0);
    }

    private static void measure(String sentence, int what, int most, int first) {
        due.says(sentence);
        for (int city = 0; city <= 1; city++) {
            HorseGift x = new HorseGift();
            due.is("at first", x.about(city, what), first);
            due.bad(x, 6, city, what, -1);
            due.bad(x, 6, city, what, most + 1);
            due.is("what it was", x.city(city, what, 0), first);
            due.is("the least", x.about(city, what), 0);
            due.is("what it was", x.city(city, what, most), 0);
            due.is("the most", x.about(city, what), most);
            due.is("the other city's", x.about(1 - city, what), first);
        }
    }

    private static void gates() {
        measure("a GATE (0 .. 30; 15 at first)", 0, 30, 15);
    }

    private static void ears() {
        measure("an EAR (0 .. 50; 10 at first)", 1, 50, 10);
    }

    private static void scales() {
        measure("a SCALE (0 .. 200; 60 at first)", 2, 200, 60);
    }

    private static void watches() {
        due.says("a WATCH for each HOUR 0 .. 5 (0 .. 20; 0 at first)");
        HorseGift x = new HorseGift();
        for (int city = 0; city <= 1; city++) {
            for (int hour = 0; hour <= 5; hour++) {
                due.is("at first", x.watch(city, hour, 20), 0);
            }
        }
        for (int city = 0; city <= 1; city++) {
            for (int hour = 0; hour <= 5; hour++) {
                due.is("the most", x.watch(city, hour, 6 * city + hour), 20);
            }
        }
        for (int city = 0; city <= 1; city++) {
            for (int hour = 0; hour <= 5; hour++) {
                due.is("each its own", x.watch(city, hour, 0), 6 * city + hour);
            }
            due.bad(x, 7, city, -1, 0);
            due.bad(x, 7, city, 6, 0);
            due.bad(x, 7, city, 0, -1);
            due.bad(x, 7, city, 5, 21);
        }
    }

    /** A gift of city 0 with a thing in it; all that could stop it is as far open as it goes, but for one. */
    private static HorseGift open(int empty, int room, int weight, int sound) {
        HorseGift x = new HorseGift();
        x.gift(PLAIN, 0, empty, room);
        x.thing(1, weight, sound, 0);
        x.put(0, 0);
        x.city(1, 0, 30);
        x.city(1, 1, 50);
        x.city(1, 2, 200);
        x.city(0, 0, 0);
        x.city(0, 1, 0);
        x.city(0, 2, 0);
        return x;
    }

    private static void passesBy(HorseGift x, int what, int least) {
        if (least > 0) {
            x.city(1, what, least - 1);
            due.is("one less", x.of(0, PASSES), 0);
            due.is("one less: sent", x.send(0, 0), -5);
        }
        x.city(1, what, least);
        due.is("as much", x.of(0, PASSES), 1);
        due.is("as much: sent", x.send(0, 0), 0);
    }

    private static void noMoreThanGate() {
        due.says("A GIFT PASSES a CITY, if its ROOM is no more than GATE");
        passesBy(open(0, 0, 0, 0), 0, 0);
        passesBy(open(0, 1, 0, 0), 0, 1);
        passesBy(open(0, 15, 0, 0), 0, 15);
        passesBy(open(0, 30, 0, 0), 0, 30);
    }

    private static void lessThanEar() {
        due.says("it SOUNDS less than EAR");
        passesBy(open(0, 1, 0, 0), 1, 1);
        passesBy(open(0, 1, 0, 20), 1, 21);
        HorseGift x = Due.told("gift 2 0 0 9;gift 5 0 0 9;thing 1 0 20 0;thing 1 0 20 0;thing 1 0 6 0;thing 1 0 1 0;"
            + "ear 1 50;in 0 0;in 1 0;in 2 0;");
        due.is("49 at the widest ear", x.of(0, PASSES), 1);
        x.put(3, 0);
        due.is("50 at the widest ear", x.of(0, PASSES), 0);
        x.city(1, 1, 6);
        due.is("an empty echo at 6", x.of(1, PASSES), 0);
        x.city(1, 1, 7);
        due.is("an empty echo at 7", x.of(1, PASSES), 1);
    }

    private static void noMoreThanScale() {
        due.says("WEIGHS no more than SCALE");
        passesBy(open(0, 1, 0, 0), 2, 0);
        passesBy(open(1, 1, 0, 0), 2, 1);
        passesBy(open(40, 1, 20, 0), 2, 60);
        HorseGift x = Due.told("gift 2 0 50 8;gift 0 1 0 16;scale 1 200;thing1 20 0 0;thing1 20 0 0;thing1 20 0 0;"
            + "thing1 20 0 0;thing1 20 0 0;thing1 20 0 0;thing1 20 0 0;");
        for (int t = 0; t < 7; t++) {
            x.put(t, 0);
        }
        for (int day = 1; day <= 9; day++) {
            x.send(1, 0);
        }
        due.is("199 at the greatest scale", x.of(0, PASSES), 1);
        x.thing(1, 1, 0, 0);
        x.put(7, 0);
        due.is("200 at the greatest scale", x.of(0, PASSES), 1);
        HorseGift y = gift(PLAIN, 50, eightOf(20, 0, 0));
        y.out(0);
        y.city(1, 2, 190);
        due.is("190 of 190", y.of(0, PASSES), 1);
        y.city(1, 2, 189);
        due.is("190 of 189", y.of(0, PASSES), 0);
        y.city(1, 2, 200);
        y.put(0, 0);
        due.is("210 of 200", y.of(0, PASSES), 0);
    }

    private static void lost(int harm, int watch, int loss) {
        for (int city = 0; city <= 1; city++) {
            for (int hour = 0; hour <= 5; hour += 5) {
                HorseGift x = new HorseGift();
                x.gift(PLAIN, city, 0, 1);
                x.thing(1, 0, 0, harm);
                x.put(0, 0);
                x.watch(1 - city, hour, watch);
                x.watch(city, hour, 20);
                x.watch(1 - city, 5 - hour, 20);
                due.is("harm " + harm + ", watch " + watch, x.send(0, hour), loss);
                due.is("lost", x.about(1 - city, 3), loss);
                due.is("lost by the sender", x.about(city, 3), 0);
                due.is("that city has it", x.of(0, CITY), 1 - city);
            }
        }
    }

    private static void losesAboveWatch() {
        due.says("that CITY has it, and LOSES what of HARM is more than its WATCH by that HOUR");
        lost(0, 0, 0);
        lost(0, 1, 0);
        lost(1, 0, 1);
        lost(1, 1, 0);
        lost(1, 2, 0);
        lost(20, 20, 0);
        lost(20, 19, 1);
        lost(20, 0, 20);
        HorseGift x = gift(RETURNED, 0, eightOf(0, 0, 20));
        x.watch(1, 5, 20);
        due.is("the most by a watch", x.send(0, 5), 142);
        HorseGift y = gift(PLAIN, 0);
        due.is("an empty one", y.send(0, 0), 0);
        due.is("is that city's", y.of(0, CITY), 1);
    }

    private static void inNoneThen() {
        due.says("what was in it is in none then");
        HorseGift x = gift(PLAIN, 0, eightOf(0, 0, 1));
        x.send(0, 0);
        due.is("nothing is in it", x.of(0, INSIDE), 0);
        due.is("nothing is in any", x.count(3), 0);
        due.no(x, 5, 0);
        due.no(x, 5, 7);
        due.is("put anew", x.put(7, 0), 1);
        HorseGift y = Due.told("gift 0 0 0 9;gift 0 0 0 9;thing 1 0 0 0;thing 1 0 0 0;thing 1 0 0 0;in 0 0;in 1 1;");
        y.send(0, 0);
        due.is("what was in another stays there", y.of(1, INSIDE), 2);
        due.no(y, 5, 0);
        due.is("that is in it still", y.out(1), 1);
        due.no(y, 5, 2);
    }

    private static void refusedStays() {
        due.says("Else it is REFUSED: it stays, and that CITY LOSES 1; -5: it is REFUSED");
        for (int city = 0; city <= 1; city++) {
            HorseGift x = new HorseGift();
            x.gift(PLAIN, city, 0, 16);
            x.thing(1, 0, 0, 20);
            due.is("an empty one", x.send(0, 0), -5);
            x.put(0, 0);
            x.watch(1 - city, 5, 20);
            due.is("whatever the watch", x.send(0, 5), -5);
            due.is("it stays", x.of(0, CITY), city);
            due.is("with what is in it", x.of(0, INSIDE), 1);
            due.is("that city lost", x.about(1 - city, 3), 2);
            due.is("the sender lost", x.about(city, 3), 0);
            due.is("it is no refused call", x.status(0) + x.status(1) + x.status(2), 0);
        }
    }

    private static void days() {
        due.says("DAYS (0 at first) are one more with each GIFT SENT");
        HorseGift x = Due.told("gift 0 0 0 9;gift 0 0 0 16;");
        due.is("at first", x.count(2), 0);
        x.send(0, 0);
        due.is("one that passes", x.count(2), 1);
        x.send(1, 0);
        due.is("one that is refused", x.count(2), 2);
        due.bad(x, 11, 2, 0);
        due.bad(x, 11, 0, 6);
        due.is("none that can not be sent", x.count(2), 2);
        HorseGift y = Due.told("gift 5 0 0 9;thing 1 0 0 7;in 0 0;");
        due.is("the day is counted behind it", y.send(0, 0), 7);
        y.put(0, 0);
        due.is("an odd one then", y.send(0, 0), 0);
    }

    private static void ofAndAbout() {
        due.says("THINGS in it (5: bits)");
        HorseGift x = gift(PLAIN, 0, eightOf(0, 0, 0));
        due.is("all", x.of(0, INSIDE), 255);
        x.out(0);
        due.is("without the first", x.of(0, INSIDE), 254);
        x.out(7);
        due.is("without the last", x.of(0, INSIDE), 126);
        due.says("whether it PASSES the other CITY (6: 1, 0)");
        due.is("passes", x.of(0, PASSES), 1);
        x.city(0, 0, 0);
        due.is("its own gate does not matter", x.of(0, PASSES), 1);
        x.city(1, 0, 0);
        due.is("passes not", x.of(0, PASSES), 0);
        due.bad(x, 13, 0, 7);
        due.bad(x, 13, 0, -1);
        due.says("GIFTS that it has (4: bits)");
        HorseGift y = new HorseGift();
        due.is("none", y.about(0, 4), 0);
        for (int g = 0; g < 6; g++) {
            y.gift(PLAIN, 1, 0, 0);
        }
        due.is("none", y.about(0, 4), 0);
        due.is("all", y.about(1, 4), 63);
        y.send(5, 0);
        due.is("the last", y.about(0, 4), 32);
        due.is("all but the last", y.about(1, 4), 31);
        due.bad(y, 14, 0, 5);
        due.bad(y, 14, 0, -1);
    }
}
