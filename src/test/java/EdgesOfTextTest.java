/** The sentences of 'Terms', 3, that name an edge, and those of promises 25 to 30: undone, read, kept, counted. */
final class EdgesOfTextTest {
    private static final Due due = new Due();

    public static void main(String[] args) {
        undoOfEach();
        undoEightAtMost();
        undoNone();
        undoLeft();
        textBytes();
        clearText();
        tokens();
        numbers();
        blanks();
        words();
        wrongTokens();
        fourthFigures();
        wrongBytes();
        tooEarly();
        emptyText();
        toldAnew();
        inTheirOrder();
        itemsRefused();
        itemsAreNone();
        images();
        imagesKeep();
        imagesLeave();
        status();
        statusOfOthers();
        count();
        digest();
        due.end("EdgesOfTextTest");
    }

    /** The digest does not tell what is undone from what is not, but for how many may be: so it is held apart. */
    private static void back(HorseGift x, String what, long digest) {
        due.is("undo of " + what, x.undo(), 1);
        due.is("all as ahead of " + what, x.digest(), digest);
    }

    private static void undoOfEach() {
        due.says("UNDO: who has GIFTS, what is in them, DAYS, what is LOST, as ahead of the last GIFT SENT, THING put or taken");
        HorseGift x = Due.told("gift 0 0 0 9;gift 0 1 0 16;thing 1 0 0 7;thing 1 0 0 7;");
        long none = x.digest();
        x.put(1, 0);
        long put = x.digest();
        x.send(0, 0);
        long sent = x.digest();
        x.send(1, 0);
        long refused = x.digest();
        x.put(0, 1);
        long more = x.digest();
        x.out(0);
        due.is("five", x.count(4), 5);
        back(x, "a thing taken", more);
        back(x, "a thing put", refused);
        back(x, "a gift refused", sent);
        due.is("a day less", x.count(2), 1);
        due.is("lost no more", x.about(0, 3), 0);
        back(x, "a gift that passed", put);
        due.is("its city has it", x.of(0, 1), 0);
        due.is("what was in it", x.of(0, 5), 2);
        due.is("no day", x.count(2), 0);
        due.is("nothing lost", x.about(1, 3), 0);
        back(x, "the first thing put", none);
        due.no(x, 12);
    }

    private static void undoEightAtMost() {
        due.says("(8 at most; ..)");
        HorseGift x = Due.told("gift 0 0 0 16;thing 1 0 0 0;");
        for (int n = 1; n <= 7; n++) {
            x.send(0, 0);
        }
        due.is("seven", x.count(4), 7);
        x.send(0, 0);
        due.is("eight", x.count(4), 8);
        x.send(0, 0);
        due.is("nine are eight", x.count(4), 8);
        for (int n = 1; n <= 8; n++) {
            due.is("undone " + n, x.undo(), 1);
            due.is("left " + n, x.count(4), 8 - n);
            due.is("day " + n, x.count(2), 9 - n);
        }
        due.no(x, 12);
        due.is("the first day stays", x.about(1, 3), 1);
        HorseGift y = Due.told("gift 0 0 0 16;thing 1 0 0 0;");
        y.put(0, 0);
        for (int n = 1; n <= 7; n++) {
            y.send(0, 0);
        }
        for (int n = 1; n <= 8; n++) {
            y.undo();
        }
        due.is("the eighth one back is the thing put", y.of(0, 5), 0);
        y.put(0, 0);
        for (int n = 1; n <= 8; n++) {
            y.send(0, 0);
        }
        for (int n = 1; n <= 8; n++) {
            y.undo();
        }
        due.is("the ninth one back is not", y.of(0, 5), 1);
        due.no(y, 12);
    }

    private static void undoNone() {
        due.says("UNDO: 1. NO: none may be.");
        due.no(new HorseGift(), 12);
        HorseGift x = Due.told("gift 0 0 0 9;thing 1 0 0 0;");
        due.no(x, 12);
        x.put(0, 0);
        due.is("one", x.undo(), 1);
        due.no(x, 12);
        due.is("it is out", x.of(0, 5), 0);
        x.city(0, 0, 3);
        x.watch(0, 0, 3);
        x.tell(0, 3);
        x.belief(0, 3, false);
        x.type('a');
        x.clear();
        x.years(0, 9, 9);
        x.image(0);
        due.no(x, 12);
    }

    private static void undoLeft() {
        due.says("THINGS, GIFTS that come leave none");
        HorseGift x = Due.told("gift 0 0 0 9;thing 1 0 0 0;");
        x.put(0, 0);
        x.out(0);
        x.thing(1, 0, 0, 0);
        due.is("behind a thing", x.count(4), 0);
        due.no(x, 12);
        x.put(0, 0);
        x.gift(0, 0, 0, 0);
        due.is("behind a gift", x.count(4), 0);
        due.no(x, 12);
        x.send(0, 0);
        x.thing(0, 0, 0, 0);
        x.gift(6, 0, 0, 0);
        due.is("behind those that do not come", x.count(4), 1);
        due.is("undone", x.undo(), 1);
        due.is("with what was in it", x.of(0, 5), 1);
        HorseGift y = Due.told("gift 0 0 0 0;gift 0 0 0 0;gift 0 0 0 0;gift 0 0 0 0;gift 0 0 0 0;gift 0 0 0 9;");
        for (int t = 0; t < 8; t++) {
            y.thing(1, 0, 0, 0);
        }
        y.put(7, 5);
        due.full(y, 2, 1, 0, 0, 0);
        due.full(y, 3, 0, 0, 0, 0);
        due.is("behind those that are too many", y.undo(), 1);
    }

    private static void textBytes() {
        due.says("a TEXT (150 bytes at most); A byte (0 .. 127) comes behind THE TEXT: how many it has. BAD; FULL.");
        HorseGift x = new HorseGift();
        due.bad(x, 8, -1);
        due.bad(x, 8, 128);
        due.is("the first", x.type(0), 1);
        due.is("the second", x.type(127), 2);
        for (int n = 3; n < 150; n++) {
            x.type(' ');
        }
        due.is("the last", x.type(' '), 150);
        due.full(x, 8, 0);
        due.full(x, 8, 127);
        due.is("as many", x.count(5), 150);
    }

    private static void clearText() {
        due.says("THE TEXT is empty: how many it had.");
        HorseGift x = new HorseGift();
        due.is("none", x.clear(), 0);
        x.type(';');
        due.is("one", x.clear(), 1);
        due.is("none", x.clear(), 0);
        due.is("it has none", x.count(5), 0);
        due.is("nor its bytes", x.read(), 0);
        Due.type(x, ";".repeat(150));
        due.is("a full one", x.clear(), 150);
        due.is("there is room", x.type(';'), 1);
        due.is("the old bytes are not read on", Due.read(x, "gate 0 1"), -18);
        due.is("nor where the text ends in a blank", Due.read(x, "gate 0 1 "), -19);
        Due.type(x, "gate 0 123;ear 0 1;");
        due.is("nor the old figures", Due.read(x, "gate 0 1"), -18);
        due.is("nor the old word", Due.read(x, "gat"), -10);
        due.is("clear refuses nothing", x.status(0) + x.status(1) + x.status(2), 0);
    }

    private static void reads(String text, int items) {
        HorseGift x = new HorseGift();
        due.is("read of '" + text + "'", Due.read(x, text), items);
    }

    private static final String WORLD = "thing 1 0 0 0;gift 0 0 0 9;";

    private static void tokens() {
        due.says("of ITEMS, each ended by ; : thing SIZE WEIGHT SOUND HARM; gift KIND CITY EMPTY ROOM; in t g; gate c n; "
            + "ear c n; scale c n; watch c h n.");
        HorseGift x = new HorseGift();
        due.is("each of them", Due.read(x, "thing 2 3 4 5;gift 3 1 7 8;in 0 0;gate 0 9;ear 0 11;scale 0 12;watch 0 4 13;"), 7);
        due.is("its weight", x.of(0, 2), 7);
        due.is("its sound", x.of(0, 3), 4);
        due.is("its harm", x.of(0, 4), 2);
        due.is("its city", x.of(0, 1), 1);
        due.is("in it", x.of(0, 5), 1);
        due.is("gate", x.about(0, 0), 9);
        due.is("ear", x.about(0, 1), 11);
        due.is("scale", x.about(0, 2), 12);
        due.is("watch", x.watch(0, 4, 0), 13);
        due.is("one alone", Due.read(x, "gate 1 0;"), 1);
        due.is("gate", x.about(1, 0), 0);
        reads("gate 1 0", -18);
        reads("in0 0;".repeat(25), -1000);
        reads("ear0 1;".repeat(21) + "   ", 21);
        reads("ear0 1;".repeat(21) + "ear", -160);
        reads("thing1 1 1 1;thing1 1 1 1;thing1 1 1 1;thing1 1 1 1;thing1 1 1 1;thing1 1 1 1;thing1 1 1 1;thing1 1 1 1;", 8);
    }

    private static void numbers() {
        due.says("figures (1 to 3 are one number)");
        HorseGift x = new HorseGift();
        due.is("of one, two and three", Due.read(x, "gift 0 1 08 009;scale 0 200;"), 2);
        due.is("eight", x.of(0, 2), 8);
        due.is("two hundred", x.about(0, 2), 200);
        reads("gate 000 030;", 1);
        reads("gate 0 31;", -1000);
        reads("gate 0 999;", -1000);
        reads("gate 999 0;", -1000);
        reads("gate 01;", -17);
        reads("gate 0 1 2;", -19);
        reads("gate 0 12 3;", -20);
    }

    private static void blanks() {
        due.says("blanks (32) between");
        reads("gate0 1;ear1 2;", 2);
        reads("   gate   0   1   ;   ear 1 2;   ", 2);
        reads("gate 0 1 ;", 1);
        reads("gate\t0 1;", -14);
        reads("gate 0\n1;", -16);
        reads("gate 0 1;\r", -19);
        reads("gate 0 1;\0", -19);
        reads("\040gate 0 1;", 1);
        reads("\037gate 0 1;", -10);
        reads("!gate 0 1;", -10);
        reads("ga te 0 1;", -10);
    }

    private static void words() {
        due.says("the first TOKEN that can not stand there (a word that is none, ..)");
        String[] none = {"thin", "things", "gifts", "gif", "i", "inn", "gates", "gat", "ea", "ears", "scal", "scales", "watc",
            "watches", "a", "z", "thinggift", "ingate", "ni", "thibg", "hat", "ghing", "lift", "on", "late", "far", "stale",
            "match"};
        for (String word : none) {
            reads(word + " 0 0;", -10);
            reads(WORLD + " " + word + " 0 0;", -10 - 28);
            reads(word, -10);
        }
        reads("gate 0 1;horse 0 1;fault;", -19);
    }

    private static void wrongTokens() {
        due.says("FAULT: the place of the first byte of the first TOKEN that can not stand there");
        reads(";", -10);
        reads("  ;", -12);
        reads("1;", -10);
        reads("gate 0 1;;", -19);
        reads("gate 0 1; 12;", -20);
        reads("gate;", -14);
        reads("gate  ;", -16);
        reads("gate 0;", -16);
        reads("gate 0 gate;", -17);
        reads("gate gate 0 1;", -15);
        reads("gate horse 1;", -15);
        reads("gate 0 1 gate;", -19);
        reads("gate 0 1 222;", -19);
        reads("gate 0 1gate 0 1;", -18);
        reads("thing 1 2 3;", -21);
        reads("thing 1 2 3 4 5;", -24);
        reads("gift 1 0 3;", -20);
        reads("gift 1 0 3 4 5;", -23);
        reads("in 0;", -14);
        reads("in 0 0 0;", -17);
        reads("ear 0;", -15);
        reads("ear 0 0 0;", -18);
        reads("scale 0;", -17);
        reads("scale 0 0 0;", -20);
        reads("watch 0 0;", -19);
        reads("watch 0 0 0 0;", -22);
    }

    private static void fourthFigures() {
        due.says("(.. a fourth figure's number, ..)");
        reads("gate 0 100;", -1000);
        reads("gate 0 1000;", -17);
        reads("gate 0 0001;", -17);
        reads("gate 0000 1;", -15);
        reads("gate 0 12345678901234567890;", -17);
        reads("gate 0 1 0001;", -19);
        reads("0001;", -10);
        reads("gate 0 0001", -17);
    }

    private static void wrongBytes() {
        due.says("(.. a byte that begins none, too)");
        int[] bytes = {0, 9, 31, 33, '-', '/', ':', '<', '@', 'A', 'G', 'Z', '`', '{', 127};
        for (int b : bytes) {
            String s = String.valueOf((char) b);
            reads(s, -10);
            reads(s + "gate 0 1;", -10);
            reads("gate" + s + "0 1;", -14);
            reads("gate 0" + s + "1;", -16);
            reads("gate 0 1" + s, -18);
            reads("gate 0 1;" + s, -19);
        }
        reads("gate 0 -1;", -17);
        reads("gate 0 1A;", -18);
        reads("gAte 0 1;", -10);
        reads("gatE 0 1;", -10);
    }

    private static void tooEarly() {
        due.says("the TEXT's length, if it ends too early");
        String text = "watch 0 1 2";
        int[] wholeTokens = {5, 6, 7, 8, 9, 10, 11};
        for (int length : wholeTokens) {
            reads(text.substring(0, length), -10 - length);
            reads(WORLD + text.substring(0, length), -10 - 27 - length);
        }
        reads("watch 0 1 2  ", -23);
        reads("thing 1 0 0", -21);
        reads("gift", -14);
        reads("in", -12);
        reads("w", -10);
        reads("gate 0 1;" + " ".repeat(139) + "in", -160);
        reads(" ".repeat(148) + "in", -160);
        reads(" ".repeat(149) + "i", -159);
    }

    private static void emptyText() {
        due.says("(an empty one: none)");
        HorseGift x = new HorseGift();
        due.is("no text", x.read(), 0);
        reads(" ", 0);
        reads(" ".repeat(150), 0);
        x.thing(1, 0, 0, 0);
        x.gift(0, 0, 0, 1);
        x.put(0, 0);
        due.is("no text anew", x.read(), 0);
        due.is("no things", x.count(0), 0);
        due.is("no gifts", x.count(1), 0);
        due.is("nothing may be undone", x.count(4), 0);
    }

    private static void toldAnew() {
        due.says("A WAR without a FAULT is told anew by these alone, .. (nothing may be undone then)");
        HorseGift x = new HorseGift();
        for (int t = 0; t < 8; t++) {
            x.thing(1, 1, 1, 1);
        }
        for (int g = 0; g < 6; g++) {
            x.gift(0, 0, 0, 9);
            x.tell(g, 9);
        }
        for (int city = 0; city <= 1; city++) {
            for (int hour = 0; hour <= 5; hour++) {
                x.watch(city, hour, 1);
            }
            for (int what = 0; what <= 2; what++) {
                x.city(city, what, 1);
            }
        }
        x.put(0, 0);
        x.send(0, 0);
        x.image(0);
        x.years(0, 9, 9);
        due.is("read", Due.read(x, "thing 1 0 0 0;gift 0 0 0 1;in 0 0;ear 1 9;"), 4);
        HorseGift y = Due.told("thing 1 0 0 0;gift 0 0 0 1;in 0 0;ear 1 9;");
        due.is("as in a new object", x.digest(), y.digest());
        due.no(x, 12);
        due.is("in it is no put that may be undone", x.count(4), 0);
        due.is("read again", x.read(), 4);
        due.is("is told anew", x.digest(), y.digest());
        due.is("a thing comes behind the one", x.thing(1, 0, 0, 0), 1);
        due.is("a gift comes behind the one", x.gift(0, 0, 0, 0), 1);
        due.is("told of the new one", x.tell(1, 0), 0);
        due.is("read refused half way", Due.read(x, "gift 1 1 1 1;thing 1 1 1 1;in 0 0;watch 1 1 1;gate 0 9;gate 9 9;"), -1005);
        x.clear();
        due.is("an empty one", x.read(), 0);
        due.is("as a new object", x.count(5) == 0 ? x.digest() : 0, new HorseGift().digest());
        x.from(0);
        due.is("what is told is kept in the image alone", x.tell(5, 0), 9);
    }

    private static void inTheirOrder() {
        due.says("in their order");
        HorseGift x = new HorseGift();
        due.is("the last one stays", Due.read(x, "ear 0 1;ear 0 2;ear 0 3;"), 3);
        due.is("ear", x.about(0, 1), 3);
        due.is("the first room", Due.read(x, "gift 0 0 0 1;gift 0 0 0 9;thing 9 0 0 0;in 0 1;"), 4);
        reads("gift 0 0 0 1;gift 0 0 0 9;thing 9 0 0 0;in 0 0;", -1003);
        reads("in 0 0;" + WORLD, -1000);
        reads("thing 1 0 0 0;in 0 0;gift 0 0 0 9;", -1001);
        reads(WORLD + "in 0 0;", 3);
    }

    private static void refusedItem(String text, int item) {
        HorseGift x = Due.told("thing 1 2 3 4;gift 1 1 2 3;gate 0 7;");
        x.put(0, 0);
        Due.type(x, text);
        long digest = x.digest();
        due.is("read of '" + text + "'", x.read(), -1000 - item);
        due.is("nothing changes", x.digest(), digest);
        due.is("not even what may be undone", x.undo(), 1);
        due.is("which is what was put", x.of(0, 5), 0);
    }

    private static void itemsRefused() {
        due.says("the first ITEM (0 on) that is refused (as its call is): nothing changes");
        String[] bad = {"thing 0 0 0 0", "thing 10 0 0 0", "thing 1 21 0 0", "thing 1 0 21 0", "thing 1 0 0 21", "gift 6 0 0 0",
            "gift 0 2 0 0", "gift 0 0 51 0", "gift 0 0 0 31", "in 1 0", "in 0 1", "gate 2 0", "gate 0 31", "ear 2 0",
            "ear 0 51", "scale 2 0", "scale 0 201", "watch 2 0 0", "watch 0 6 0", "watch 0 0 21"};
        for (String item : bad) {
            refusedItem(WORLD + item + ";", 2);
            refusedItem(WORLD + item + ";" + item + ";thing 1 1 1 1;", 2);
        }
        String[] good = {"thing 1 20 20 20", "thing 9 0 0 0", "gift 5 1 50 30", "in 0 0", "gate 1 30", "ear 1 50", "scale 1 200",
            "watch 1 5 20"};
        for (String item : good) {
            reads(WORLD + item + ";", 3);
        }
        refusedItem(WORLD + "in 0 0;in 0 0;", 3);
        refusedItem("thing 1 0 0 0;gift 0 0 0 0;in 0 0;", 2);
        refusedItem("thing1 0 0 0;".repeat(9), 8);
        refusedItem("gift 0 0 0 0;".repeat(7), 6);
        refusedItem("gate 9 9;", 0);
        due.says("-10 less the FAULT; -1000 less the number of the first ITEM that is refused");
        reads("gate 9 9;?", -19);
        reads("gate 9 9;gate 9 9", -27);
        reads("in0 0;".repeat(24) + "in0 0", -159);
        HorseGift x = new HorseGift();
        due.is("a fault", Due.read(x, "gate 0 1;?"), -19);
        due.is("is no fault of the next text", Due.read(x, "gate 0 1;ear 0 1;"), 2);
        due.is("an item refused", Due.read(x, "gate 0 1;ear 9 1;"), -1001);
        due.is("is none of the next text", Due.read(x, "gate 0 2;"), 1);
        x.clear();
        due.is("nor are its items", x.read(), 0);
    }

    private static void itemsAreNone() {
        due.says("(each answer told so below is such a one; ITEMS are none)");
        HorseGift x = new HorseGift();
        Due.read(x, "gate 9 9;");
        Due.read(x, WORLD + "in 0 0;in 0 0;");
        Due.read(x, "gift 0 0 0 0;".repeat(7));
        Due.read(x, "gate");
        due.is("BAD", x.status(0), 0);
        due.is("NO", x.status(1), 0);
        due.is("FULL", x.status(2), 0);
    }

    private static void images() {
        due.says("An IMAGE is kept: 1. BAD; It goes on from an IMAGE: 1. BAD; NO: none was kept.");
        HorseGift x = new HorseGift();
        due.no(x, 27, 0);
        due.no(x, 27, 1);
        due.bad(x, 26, 2);
        due.bad(x, 26, -1);
        due.bad(x, 27, 2);
        due.bad(x, 27, -1);
        due.is("the second kept", x.image(1), 1);
        due.no(x, 27, 0);
        x.thing(1, 0, 0, 0);
        due.is("from it", x.from(1), 1);
        due.is("no things", x.count(0), 0);
        x.thing(1, 0, 0, 0);
        due.is("the first kept", x.image(0), 1);
        due.is("from the second", x.from(1), 1);
        due.is("no things", x.count(0), 0);
        due.is("from the first", x.from(0), 1);
        due.is("one thing", x.count(0), 1);
        due.is("from the first again", x.from(0), 1);
        due.is("one thing", x.count(0), 1);
        x.thing(1, 0, 0, 0);
        due.is("the first kept anew", x.image(0), 1);
        x.from(1);
        x.from(0);
        due.is("two things", x.count(0), 2);
    }

    private static void imagesKeep() {
        due.says("IMAGES 0, 1 keep all but them, ..; what may be undone they keep");
        for (int i = 0; i <= 1; i++) {
            HorseGift x = Due.told("gift 0 0 0 16;gift 0 1 0 9;thing 1 0 0 9;thing 2 0 0 0;gate 0 30;watch 0 5 4;");
            x.tell(1, 8);
            x.put(0, 1);
            for (int n = 0; n < 8; n++) {
                x.send(0, 0);
            }
            x.send(1, 5);
            long digest = x.digest();
            x.image(i);
            long[] back = new long[8];
            for (int n = 0; n < 8; n++) {
                x.undo();
                back[n] = x.digest();
            }
            x.thing(1, 1, 1, 1);
            x.gift(1, 1, 1, 1);
            x.tell(0, 5);
            x.watch(0, 5, 1);
            x.watch(1, 0, 1);
            x.city(1, 0, 1);
            for (int n = 0; n < 5; n++) {
                x.put(2, 1);
                x.out(2);
            }
            due.is("from " + i, x.from(i), 1);
            due.is("all as it was kept", x.digest(), digest);
            for (int n = 0; n < 8; n++) {
                due.is("undo", x.undo(), 1);
                due.is("as it was ahead of it", x.digest(), back[n]);
            }
            due.is("what was in it", x.of(1, 5), 1);
            due.no(x, 12);
            due.is("from it once more", x.from(i), 1);
            due.is("all as it was kept", x.digest(), digest);
        }
        HorseGift y = Due.told("gift 0 0 0 9;thing 1 0 0 0;");
        y.image(0);
        y.put(0, 0);
        y.from(0);
        due.is("nothing to be undone is kept too", y.count(4), 0);
        due.no(y, 12);
    }

    private static void imagesLeave() {
        due.says("keep all but them, THE TEXT, THE FRACTION and STATUS");
        HorseGift x = Due.told("gift 0 0 0 9;thing 1 0 0 0;");
        Due.type(x, "gate 0 1;");
        x.belief(0, 1, false);
        x.undo();
        x.image(0);
        x.image(1);
        x.belief(0, 3, false);
        x.undo();
        x.type(' ');
        x.from(0);
        due.is("above", x.part(0), 7);
        due.is("below", x.part(1), 10);
        due.is("bytes", x.count(5), 10);
        due.is("status", x.status(1), 2);
        due.is("the text is read", x.read(), 1);
        due.is("no gifts", x.count(1), 0);
        x.image(0);
        x.from(1);
        due.is("the other image", x.count(1), 1);
        x.from(0);
        due.is("is not the one", x.count(1), 0);
        due.is("read leaves the fraction", x.part(0), 7);
    }

    private static void status() {
        due.says("STATUS: how many calls were refused as BAD, NO, FULL; -1: another what (counts as BAD)");
        HorseGift x = new HorseGift();
        for (int reason = 0; reason <= 2; reason++) {
            due.is("none", x.status(reason), 0);
        }
        due.is("another what", x.status(3), -1);
        due.is("counts", x.status(0), 1);
        due.is("another what", x.status(-1), -1);
        due.is("counts", x.status(0), 2);
        due.is("another what", x.status(Integer.MIN_VALUE), -1);
        due.is("another what", x.status(Integer.MAX_VALUE), -1);
        due.is("counts", x.status(0), 4);
        due.is("not as NO", x.status(1), 0);
        due.is("not as FULL", x.status(2), 0);
    }

    private static void statusOfOthers() {
        due.says("(where others are told they count as these)");
        HorseGift x = new HorseGift();
        due.is("send", x.send(0, 0), -10);
        due.is("counts", x.status(0), 1);
        due.is("hide", x.hide(0, 0, 0), -10);
        due.is("counts", x.status(0), 2);
        due.is("game", x.game(0, 0, 0), -10);
        due.is("counts", x.status(0), 3);
        due.is("carts", x.carts(2, 0, 1, 0), -10);
        due.is("counts", x.status(0), 4);
        HorseGift y = Due.told("gift 0 0 9 16;");
        due.is("REFUSED is none", y.send(0, 0), -5);
        due.is("not so many is none", y.carts(0, 400, 1, 9), -5);
        due.is("more than b is none", y.carts(0, 8, 1, -1), -1);
        due.is("none to hide is none", y.hide(0, 0, 0), -1);
        Due.read(y, "?");
        due.is("BAD", y.status(0), 0);
        due.is("NO", y.status(1), 0);
        due.is("FULL", y.status(2), 0);
    }

    private static void count() {
        due.says("How many: 0 THINGS, 1 GIFTS, 2 DAYS, 3 THINGS in GIFTS, 4 that may be undone, 5 bytes of THE TEXT. BAD.");
        HorseGift x = new HorseGift();
        for (int what = 0; what <= 5; what++) {
            due.is("none of " + what, x.count(what), 0);
        }
        for (int n = 0; n < 9; n++) {
            x.thing(1, 0, 0, 0);
        }
        for (int n = 0; n < 7; n++) {
            x.gift(0, 0, 0, n == 0 ? 16 : 2);
        }
        due.is("all things", x.count(0), 8);
        due.is("all gifts", x.count(1), 6);
        for (int n = 0; n < 8; n++) {
            x.put(n, 1 + n % 5);
        }
        due.is("all in gifts", x.count(3), 8);
        x.send(5, 0);
        due.is("one less with one sent", x.count(3), 7);
        due.is("no more than eight", x.count(4), 8);
        due.is("one day", x.count(2), 1);
        due.bad(x, 29, 6);
        due.bad(x, 29, -1);
        due.bad(x, 29, Integer.MAX_VALUE);
    }

    private static long over(long h, long... values) {
        for (long v : values) {
            h = 31 * h + v;
        }
        return h;
    }

    private static void digest() {
        due.says("h = 863; then h = 31 h + v for each v");
        long h = over(863, 0, 0, 0, 0, 0, 0);
        for (int city = 0; city <= 1; city++) {
            h = over(h, 15, 10, 60, 0, 0, 0, 0, 0, 0, 0);
        }
        due.is("of a new one", new HorseGift().digest(), over(h, 0, 1));
        due.says("the GIFT (NONE); .. LOST told; .. WATCH by HOURS, LOST; THE FRACTION");
        HorseGift x = new HorseGift();
        for (int t = 0; t < 8; t++) {
            x.thing(1 + t, 2 * t, 20 - t, 13 + t);
        }
        for (int g = 0; g < 6; g++) {
            x.gift(g, g % 2, 5 * g, 30 - 3 * g);
            x.tell(g, 99 - g);
        }
        for (int city = 0; city <= 1; city++) {
            for (int hour = 0; hour <= 5; hour++) {
                x.watch(city, hour, 7 * city + hour);
            }
        }
        x.put(7, 1);
        x.put(0, 5);
        x.send(0, 2);
        x.send(3, 2);
        x.send(3, 2);
        x.belief(0, 9, false);
        x.type('a');
        h = over(863, 8, 6, 3, 2, 5, 1);
        for (int t = 0; t < 8; t++) {
            h = over(h, 1 + t, 2 * t, 20 - t, 13 + t, t == 0 ? 5 : t == 7 ? 1 : -1);
        }
        for (int g = 0; g < 6; g++) {
            h = over(h, g, g % 2, 5 * g, 30 - 3 * g, 99 - g);
        }
        h = over(h, 15, 10, 60, 0, 1, 2, 3, 4, 5, 2);
        h = over(h, 15, 10, 60, 7, 8, 9, 10, 11, 12, 1);
        due.is("of a full one: beyond a long many times over", x.digest(), over(h, x.part(0), x.part(1)));
        due.is("each is heard, so not heard is empty: above", x.part(0), 1);
        due.is("and below", x.part(1), 1);
    }
}
