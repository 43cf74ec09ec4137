/** The sentences of 'Terms', 2, and of YEARS that name an edge: what to do. */
final class EdgesOfCounselTest {
    private static final Due due = new Due();

    public static void main(String[] args) {
        changesNothing();
        hideAmong();
        hideRoom();
        hidePasses();
        hideLikeOnes();
        hideNone();
        wideGate();
        wideEar();
        wideElse();
        wideOfNone();
        beliefChances();
        beliefHeard();
        beliefNo();
        beliefTerms();
        knocksHeard();
        knocksHeavy();
        knocksRoom();
        knocksSets();
        gameLosses();
        gameEmpty();
        gameSent();
        standHours();
        standPasses();
        tellOf();
        satTold();
        satRoom();
        satWhere();
        cartsBear();
        cartsFewer();
        cartsLikeOnes();
        cartsPlaces();
        yearsNone();
        yearsSeeds();
        yearsLost();
        yearsNo();
        due.end("EdgesOfCounselTest");
    }

    private static void changesNothing() {
        due.says("(What is below changes nothing.)");
        HorseGift x = Due.told("thing 1 2 3 4;thing 2 3 4 5;thing 3 4 5 6;gift 5 0 9 9;gift 0 1 9 9;in 0 0;watch 1 1 2;");
        x.put(1, 1);
        x.send(1, 0);
        x.tell(0, 4);
        long digest = x.digest();
        int[][] asked = {{15, 0, 1, 0}, {15, 0, 1, 1}, {16, 0, 0}, {16, 0, 1}, {18, 0, 7, 0}, {19, 0, 0, 0}, {19, 0, 0, 1},
            {20, 0, 0}, {20, 0, 1}, {22, 2, 0}, {23, 0, 400, 3, -1}, {23, 0, 0, 1, 9}, {24, 0, 90, 999999}, {24, 1, 90, 1}};
        for (int[] a : asked) {
            int[] numbers = new int[a.length - 1];
            System.arraycopy(a, 1, numbers, 0, numbers.length);
            Calls.answer(x, a[0], numbers);
            due.is("digest() after " + Calls.spelled(a[0], numbers), x.digest(), digest);
        }
        due.is("nothing is refused", x.status(0) + x.status(1) + x.status(2), 0);
        due.is("what may be undone", x.undo(), 1);
        due.is("is as it was", x.of(1, 5), 2);
        x.belief(0, 5, true);
        due.is("belief leaves what is in it", x.of(0, 5), 1);
        due.is("belief leaves what may be undone", x.count(4), 1);
    }

    private static void hideAmong() {
        due.says("HIDE in a GIFT for an HOUR: of THINGS in none and in it");
        HorseGift x = Due.told("gift 0 0 0 9;gift 0 0 0 9;thing 1 0 0 1;thing 1 0 0 2;thing 1 0 0 4;in 0 0;in 1 1;");
        due.is("in it and in none", x.hide(0, 0, 0), 5);
        due.is("how much", x.hide(0, 0, 1), 5);
        due.is("of the other one", x.hide(1, 0, 0), 6);
        x.put(2, 1);
        due.is("in it alone", x.hide(0, 0, 0), 1);
        x.out(0);
        x.put(0, 1);
        due.is("all are in another", x.hide(0, 0, 0), 0);
        due.is("how much", x.hide(0, 0, 1), 0);
        HorseGift y = Due.told("gift 0 0 0 9;");
        due.is("no things", y.hide(0, 5, 0), 0);
        due.is("how much", y.hide(0, 5, 1), 0);
        HorseGift z = eight();
        due.is("all things", z.hide(0, 0, 0), 255);
        due.is("how much", z.hide(0, 0, 1), 8);
    }

    /** A gift of room 8, eight things of size 1 and harm 1. */
    private static HorseGift eight() {
        HorseGift x = Due.told("gift 0 0 0 8;");
        for (int t = 0; t < 8; t++) {
            x.thing(1, 1, 1, 1);
        }
        return x;
    }

    private static void hideRoom() {
        due.says("a set that has ROOM");
        HorseGift x = Due.told("thing 9 0 0 5;thing 1 0 0 3;gift 0 0 0 10;gift 0 0 0 9;gift 0 0 0 8;gift 0 0 0 1;"
            + "gift 0 0 0 0;");
        due.is("as much room as both", x.hide(0, 0, 0), 3);
        due.is("one less", x.hide(1, 0, 0), 1);
        due.is("room for one", x.hide(2, 0, 0), 2);
        due.is("as much room as the small one", x.hide(3, 0, 0), 2);
        due.is("no room", x.hide(4, 0, 0), 0);
    }

    private static void hidePasses() {
        due.says("by which it PASSES the other CITY");
        HorseGift x = Due.told("thing 1 5 0 3;thing 1 0 5 2;gift 0 0 10 15;ear 1 6;scale 1 15;");
        due.is("both", x.hide(0, 0, 0), 3);
        x.city(1, 1, 5);
        due.is("as loud as the ear", x.hide(0, 0, 0), 1);
        x.city(1, 1, 6);
        x.city(1, 2, 14);
        due.is("heavier than the scale", x.hide(0, 0, 0), 2);
        x.city(1, 0, 14);
        due.is("more room than the gate", x.hide(0, 0, 0), -1);
        x.city(1, 0, 15);
        due.is("as much room as the gate", x.hide(0, 0, 0), 2);
    }

    private static void hideLikeOnes() {
        due.says("of like ones fewer THINGS, then the least");
        HorseGift x = Due.told("gift 0 0 0 2;thing 1 0 0 1;thing 1 0 0 1;thing 1 0 0 2;thing 1 0 0 2;watch 1 1 3;"
            + "watch 1 2 4;watch 1 3 20;");
        due.is("most", x.hide(0, 0, 0), 12);
        due.is("one above the watch", x.hide(0, 1, 0), 12);
        due.is("how much", x.hide(0, 1, 1), 1);
        due.is("as much as the watch: nothing is enough", x.hide(0, 2, 0), 0);
        due.is("how much", x.hide(0, 2, 1), 0);
        due.is("less than the watch", x.hide(0, 3, 0), 0);
        x.gift(0, 0, 0, 1);
        due.is("the least of two", x.hide(1, 0, 0), 4);
        HorseGift y = Due.told("gift 0 0 0 9;thing 1 0 9 1;thing 1 0 0 1;thing 1 0 9 2;thing 1 0 0 0;ear 1 10;");
        due.is("a harmless one is left out, the louder too", y.hide(0, 0, 0), 6);
        y.watch(1, 0, 2);
        due.is("how much", y.hide(0, 0, 1), 1);
        HorseGift z = Due.told("gift 0 0 0 9;thing 4 0 0 1;thing 5 0 0 1;thing 9 0 0 2;thing 8 0 0 2;");
        due.is("one for two, the least of them", z.hide(0, 0, 0), 4);
        HorseGift w = Due.told("gift 3 0 0 9;thing 1 0 0 1;thing 1 0 0 2;thing 1 0 0 3;");
        due.is("what is cut is not brought along", w.hide(0, 0, 0), 7);
        w.watch(1, 0, 2);
        due.is("nor where the watch takes the rest", w.hide(0, 0, 1), 1);
        HorseGift v = Due.told("gift 3 0 0 9;thing 1 0 0 1;thing 1 0 0 2;");
        due.is("the half of three is that of two", v.hide(0, 0, 0), 2);
        HorseGift u = Due.told("gift 5 0 0 9;gift 0 1 0 16;thing 1 0 0 9;");
        u.send(1, 0);
        due.is("an echo on an odd day: nothing", u.hide(0, 0, 0), 0);
        u.send(1, 0);
        due.is("an echo on an even day", u.hide(0, 0, 0), 1);
    }

    private static void hideNone() {
        due.says("how much; none; NONE.");
        HorseGift x = Due.told("gift 0 0 0 9;thing 1 0 0 9;ear 1 0;");
        due.is("heard with nothing", x.hide(0, 0, 0), -1);
        due.is("how much", x.hide(0, 0, 1), -1);
        x.city(1, 1, 1);
        due.is("not heard with it", x.hide(0, 0, 0), 1);
        due.is("none is no refusal", x.status(0) + x.status(1) + x.status(2), 0);
    }

    private static void wideGate() {
        due.says("WIDE: the least GATE (0 .. 30)");
        HorseGift x = Due.told("gift 0 0 0 1;gift 0 0 0 30;gift 0 1 0 9;thing 1 0 0 0;thing 1 0 0 0;thing 1 0 0 0;gate 1 0;"
            + "gate 0 0;");
        due.is("nothing is inside any", x.wide(0, 0), 0);
        x.put(0, 0);
        due.is("the least that is not 0", x.wide(0, 0), 1);
        x.put(1, 1);
        due.is("the most", x.wide(0, 0), 30);
        due.is("the other city's have nothing inside", x.wide(1, 0), 0);
        x.put(2, 2);
        due.is("the other city's", x.wide(1, 0), 9);
        x.city(1, 0, 30);
        due.is("whatever the gate is", x.wide(0, 0), 30);
    }

    private static void wideEar() {
        due.says("WIDE: the least .. EAR (0 .. 50)");
        HorseGift x = Due.told("gift 0 0 0 9;thing 1 0 0 0;thing 1 0 9 0;thing 1 0 20 0;thing 1 0 20 0;thing 1 0 1 0;ear 1 0;");
        due.is("nothing is inside any", x.wide(0, 1), 0);
        x.put(0, 0);
        due.is("a silent one", x.wide(0, 1), 1);
        x.put(1, 0);
        due.is("nine", x.wide(0, 1), 10);
        x.put(2, 0);
        x.put(3, 0);
        due.is("forty-nine", x.wide(0, 1), 50);
        x.put(4, 0);
        due.is("fifty: no ear is enough", x.wide(0, 1), -1);
        x.city(1, 1, 50);
        due.is("whatever the ear is", x.wide(0, 1), -1);
    }

    private static void wideElse() {
        due.says("all GIFTS .. would PASS, all else as it is; none.");
        HorseGift x = Due.told("gift 0 0 20 10;gift 0 0 0 9;thing 1 5 5 0;thing 1 0 0 0;gate 1 10;ear 1 6;scale 1 25;in 0 0;"
            + "in 1 1;");
        due.is("gate, all but as much", x.wide(0, 0), 10);
        due.is("ear, all but as much", x.wide(0, 1), 6);
        x.city(1, 1, 5);
        due.is("the ear hears one: no gate", x.wide(0, 0), -1);
        due.is("but an ear", x.wide(0, 1), 6);
        x.city(1, 1, 6);
        x.city(1, 0, 9);
        due.is("the gate stops one: no ear", x.wide(0, 1), -1);
        due.is("but a gate", x.wide(0, 0), 10);
        x.city(1, 0, 10);
        x.city(1, 2, 24);
        due.is("the scale stops one: no gate", x.wide(0, 0), -1);
        due.is("the scale stops one: no ear", x.wide(0, 1), -1);
        due.is("none is no refusal", x.status(0) + x.status(1) + x.status(2), 0);
    }

    private static void wideOfNone() {
        due.says("all GIFTS of a CITY that have anything inside");
        HorseGift x = new HorseGift();
        due.is("no gifts", x.wide(0, 0), 0);
        due.is("no gifts", x.wide(1, 1), 0);
        HorseGift y = Due.told("gift 5 0 50 30;gift 0 0 0 9;gift 0 1 0 30;thing 1 0 0 0;thing 1 0 20 0;in 0 1;in 1 2;scale 1 0;"
            + "ear 1 1;");
        due.is("empty ones may be as they like", y.wide(0, 0), 9);
        due.is("empty ones may be as they like", y.wide(0, 1), 1);
        y.out(0);
        due.is("all are empty", y.wide(0, 0), 0);
        due.is("all are empty", y.wide(0, 1), 0);
        y.put(0, 0);
        due.is("it is no empty one", y.wide(0, 0), -1);
    }

    private static void belief(HorseGift x, int gift, int c, boolean heard, long above, long below) {
        String call = "belief(" + gift + ", " + c + ", " + heard + ")";
        due.is(call, x.belief(gift, c, heard), 1);
        due.is(call + ": above", x.part(0), above);
        due.is(call + ": below", x.part(1), below);
    }

    private static void beliefChances() {
        due.says("each THING in none and in it is there by c of 10 (0 .. 10), apart");
        HorseGift x = Due.told("gift 0 0 0 0;gift 0 1 0 9;thing 9 0 0 0;thing 9 0 0 0;thing 9 0 0 0;");
        belief(x, 0, 0, false, 1, 1);
        belief(x, 0, 10, false, 0, 1);
        belief(x, 0, 1, false, 729, 1000);
        belief(x, 0, 9, false, 1, 1000);
        x.put(0, 1);
        belief(x, 0, 1, false, 81, 100);
        belief(x, 1, 1, false, 729, 1000);
        HorseGift none = Due.told("gift 0 0 0 9;");
        belief(none, 0, 10, false, 1, 1);
        HorseGift all = Due.told("gift 0 0 0 8;thing1 0 0 0;thing1 0 0 0;thing1 0 0 0;thing1 0 0 0;thing1 0 0 0;"
            + "thing1 0 0 0;thing1 0 0 0;thing1 0 0 0;");
        belief(all, 0, 7, false, 6561, 100000000);
        belief(all, 0, 10, false, 0, 1);
        belief(all, 0, 0, false, 1, 1);
    }

    private static void beliefHeard() {
        due.says("it is heard (SOUNDS no less than the other CITY's EAR) or not, as told");
        HorseGift x = Due.told("gift 0 0 0 9;thing 1 0 7 0;thing 1 0 3 0;ear 1 10;ear 0 0;");
        belief(x, 0, 5, false, 1, 3);
        belief(x, 0, 5, true, 0, 1);
        x.city(1, 1, 11);
        belief(x, 0, 5, false, 1, 4);
        x.city(1, 1, 7);
        belief(x, 0, 5, false, 1, 2);
        x.city(1, 1, 3);
        belief(x, 0, 5, false, 1, 1);
        x.city(1, 1, 0);
        belief(x, 0, 5, true, 1, 4);
        HorseGift y = Due.told("gift 2 0 0 9;gift 5 0 0 9;thing 1 0 0 0;ear 1 3;");
        belief(y, 0, 1, true, 9, 10);
        y.city(1, 1, 4);
        belief(y, 0, 1, false, 9, 10);
        y.city(1, 1, 6);
        belief(y, 1, 1, true, 9, 10);
        y.city(1, 1, 7);
        belief(y, 1, 1, false, 9, 10);
    }

    private static void beliefNo() {
        due.says("THE FRACTION (NO: it can not be so)");
        HorseGift x = Due.told("gift 0 0 0 9;thing 1 0 5 0;thing 1 0 4 0;ear 1 9;");
        belief(x, 0, 5, true, 0, 1);
        belief(x, 0, 4, false, 3, 7);
        due.no(x, 17, 0, 0, 1);
        due.no(x, 17, 0, 10, 0);
        x.city(1, 1, 10);
        due.no(x, 17, 0, 5, 1);
        x.city(1, 1, 0);
        due.no(x, 17, 0, 5, 0);
        due.is("above stays", x.part(0), 3);
        due.is("below stays", x.part(1), 7);
        HorseGift y = Due.told("gift 0 0 0 9;");
        due.no(y, 17, 0, 5, 1);
        due.is("above at first", y.part(0), 0);
        due.is("below at first", y.part(1), 1);
        y.city(1, 1, 0);
        due.no(y, 17, 0, 5, 0);
        belief(y, 0, 5, true, 1, 1);
    }

    private static void beliefTerms() {
        due.says("THE FRACTION is 0 by 1 at first; lowest terms, below above 0");
        HorseGift x = Due.told("gift 0 0 0 9;thing 1 0 5 0;thing 1 0 5 0;ear 1 6;");
        due.is("above at first", x.part(0), 0);
        due.is("below at first", x.part(1), 1);
        belief(x, 0, 5, false, 1, 3);
        belief(x, 0, 2, false, 2, 3);
        belief(x, 0, 4, false, 3, 7);
        belief(x, 0, 5, true, 0, 1);
        belief(x, 0, 8, false, 1, 9);
        due.bad(x, 25, 2);
        due.bad(x, 25, -1);
    }

    private static void knocksHeard() {
        due.says("1 that one is heard there, the other one not (SOUNDS no less than EAR)");
        HorseGift x = Due.told("gift 0 0 0 0;gift 1 0 0 0;thing 1 0 10 0;thing 1 0 9 0;thing 1 0 11 0;ear 0 0;");
        due.is("as loud as the ear, and one less", x.knocks(0, 1, 2), 1);
        due.is("as loud as the ear, and one more", x.knocks(0, 1, 4), 0);
        due.is("one less, and nothing", x.knocks(0, 2, 0), 0);
        due.is("nothing, and as loud as the ear", x.knocks(0, 0, 1), 1);
        due.is("a double one: ten and nine", x.knocks(1, 3, 4), 0);
        due.is("a double one: ten and five", x.knocks(1, 5, 4), 1);
        x.city(1, 1, 0);
        due.is("all is heard", x.knocks(0, 0, 7), 0);
    }

    private static void knocksHeavy() {
        due.says("2 that one is heavy, the other one not (WEIGHS more than SCALE), 3 both, 0 nothing");
        HorseGift x = Due.told("gift 0 0 10 0;gift 3 0 50 0;thing 1 10 0 0;thing 1 11 0 0;thing 1 20 10 0;scale 1 20;");
        due.is("as heavy as the scale, and one more", x.knocks(0, 1, 2), 2);
        due.is("the other way round", x.knocks(0, 2, 1), 2);
        due.is("as heavy as the scale, and nothing", x.knocks(0, 1, 0), 0);
        due.is("both heavy", x.knocks(0, 2, 3), 0);
        due.is("heavy and heard", x.knocks(0, 4, 1), 3);
        due.is("heard alone, both heavy", x.knocks(0, 4, 2), 1);
        due.is("law is always heavy", x.knocks(1, 2, 0), 0);
        x.city(1, 2, 0);
        due.is("all is heavy", x.knocks(0, 0, 3), 0);
    }

    private static void knocksRoom() {
        due.says("were one or another set of THINGS in a GIFT (ROOM or not)");
        HorseGift x = Due.told("gift 0 0 0 0;gift 0 0 0 9;gift 0 1 0 0;thing 9 0 20 0;thing 9 0 0 0;in 0 1;");
        due.is("no room, and in another", x.knocks(0, 1, 0), 1);
        due.is("in it", x.knocks(1, 0, 1), 1);
        due.is("not what is in it", x.knocks(1, 0, 2), 0);
        due.is("of the other city", x.knocks(2, 3, 0), 1);
    }

    private static void knocksSets() {
        due.says("KNOCKS. BAD: sets beyond the THINGS, too.");
        HorseGift x = eight();
        x.city(1, 1, 8);
        due.is("all, and all but the last", x.knocks(0, 255, 127), 1);
        due.is("all, and all but the first", x.knocks(0, 254, 255), 1);
        due.bad(x, 18, 0, 256, 0);
        due.bad(x, 18, 0, 0, 256);
        due.bad(x, 18, 0, -1, 0);
        due.bad(x, 18, 0, 0, -1);
        HorseGift y = Due.told("gift 0 0 0 9;");
        due.is("no things", y.knocks(0, 0, 0), 0);
        due.bad(y, 18, 0, 1, 0);
        due.bad(y, 18, 0, 0, 1);
        y.thing(1, 0, 0, 0);
        due.is("one thing", y.knocks(0, 1, 1), 0);
        due.bad(y, 18, 0, 2, 0);
        due.bad(y, 18, 0, 0, 2);
    }

    /** A gift of city 0 with a thing of harm 20 in it: what is taken costs so much by hour 5. */
    private static HorseGift costs(int loss) {
        HorseGift x = Due.told("gift 0 0 0 9;thing 1 0 0 20;in 0 0;");
        x.watch(1, 5, 20 - loss);
        return x;
    }

    private static void gameLosses() {
        due.says("Who takes loses as by a GIFT that PASSES, who refuses 1, who opens 3");
        int[][] games = {{0, 2, 0}, {1, 3, 0}, {2, 2, 1}, {3, 2, 1}, {4, 2, 1}, {20, 2, 1}};
        for (int[] g : games) {
            due.is("pairs where it costs " + g[0], costs(g[0]).game(0, 5, 0), g[1]);
            due.is("the first where it costs " + g[0], costs(g[0]).game(0, 5, 1), g[2]);
        }
        due.is("by another hour", costs(0).game(0, 4, 1), 1);
        due.says("(whether it PASSES or not)");
        for (int what = 0; what <= 1; what++) {
            HorseGift x = costs(1);
            x.city(1, what, 0);
            due.is("pairs where it is refused", x.game(0, 5, 0), 3);
            due.is("the first where it is refused", x.game(0, 5, 1), 0);
        }
    }

    private static void gameEmpty() {
        due.says("if anything is inside, else 6; .. else nothing");
        HorseGift x = Due.told("gift 4 0 0 9;thing 1 0 0 0;");
        due.is("an empty one: pairs", x.game(0, 0, 0), 2);
        due.is("an empty one: the first", x.game(0, 0, 1), 0);
        x.put(0, 0);
        due.is("harm of 2 by something inside: pairs", x.game(0, 0, 0), 2);
        due.is("harm of 2 by something inside: the first", x.game(0, 0, 1), 1);
        x.watch(1, 0, 1);
        due.is("harm of 1: pairs", x.game(0, 0, 0), 3);
        x.watch(1, 0, 2);
        due.is("harm of none: pairs", x.game(0, 0, 0), 2);
        due.is("harm of none: the first", x.game(0, 0, 1), 0);
    }

    private static void gameSent() {
        due.says("Pairs that rest (neither would lose less else): how many, the first");
        for (int kind = 0; kind <= 5; kind++) {
            HorseGift x = new HorseGift();
            x.gift(kind, 1, 0, 9);
            x.thing(1, 0, 0, 8);
            due.is("empty, kind " + kind, 100 * x.game(0, 0, 0) + x.game(0, 0, 1), 200);
            x.put(0, 0);
            due.is("full, kind " + kind, 100 * x.game(0, 0, 0) + x.game(0, 0, 1), 201);
            due.is("there is always one", x.status(0) + x.status(1), 0);
        }
    }

    private static void standHours() {
        due.says("STAND: the HOUR by which least of HARM .. comes in the other CITY; of like ones the first");
        HorseGift x = Due.told("gift 0 0 0 9;thing 1 0 0 20;in 0 0;watch 0 2 20;");
        due.is("all alike", x.stand(0, 0), 0);
        due.is("how much", x.stand(0, 1), 20);
        x.watch(1, 5, 1);
        due.is("the last one", x.stand(0, 0), 5);
        due.is("how much", x.stand(0, 1), 19);
        x.watch(1, 4, 1);
        due.is("the first of two", x.stand(0, 0), 4);
        x.watch(1, 3, 20);
        due.is("nothing comes", x.stand(0, 0), 3);
        due.is("how much", x.stand(0, 1), 0);
        x.watch(1, 1, 20);
        due.is("the first by which nothing comes", x.stand(0, 0), 1);
        x.watch(1, 0, 19);
        due.is("one is more than nothing", x.stand(0, 0), 1);
        x.out(0);
        due.is("an empty one", x.stand(0, 0), 0);
        due.is("how much", x.stand(0, 1), 0);
    }

    private static void standPasses() {
        due.says("which, how much (whether it PASSES or not)");
        HorseGift x = Due.told("gift 0 1 50 30;thing 1 20 20 7;in 0 0;gate 0 0;ear 0 0;scale 0 0;watch 0 5 3;");
        due.is("it would be refused", x.of(0, 6), 0);
        due.is("which", x.stand(0, 0), 5);
        due.is("how much", x.stand(0, 1), 4);
    }

    private static void tellOf() {
        due.says("(LOST of GIFTS, 0 .. 99; 0 at first)");
        HorseGift x = new HorseGift();
        for (int g = 0; g < 6; g++) {
            x.gift(0, 0, 0, 0);
            due.is("at first", x.tell(g, 99), 0);
        }
        for (int g = 0; g < 6; g++) {
            due.is("the most", x.tell(g, g), 99);
        }
        for (int g = 0; g < 6; g++) {
            due.is("each its own", x.tell(g, 0), g);
        }
        due.bad(x, 21, 0, -1);
        due.bad(x, 21, 0, 100);
        due.bad(x, 21, 6, 0);
        due.bad(new HorseGift(), 21, 0, 0);
    }

    private static void satTold() {
        due.says("makes what is told of all GIFTS so");
        HorseGift x = Due.told("gift 0 0 0 9;gift 0 0 0 9;gift 0 1 0 9;thing 1 0 0 20;thing 1 0 0 3;in 1 1;watch 1 5 20;");
        x.tell(1, 3);
        due.is("at first 0 is told", x.sat(0, 0), 0);
        x.tell(0, 20);
        due.is("in the first", x.sat(0, 0), 1);
        x.tell(0, 19);
        due.is("one less", x.sat(0, 0), 0);
        x.tell(0, 0);
        x.tell(1, 23);
        due.is("with what is in the second", x.sat(0, 0), 2);
        x.tell(1, 3);
        x.tell(2, 20);
        due.is("in the other city's", x.sat(0, 0), 4);
        x.tell(0, 20);
        due.is("in both at once: none", x.sat(0, 0), 0);
        x.tell(0, 0);
        x.tell(1, 2);
        due.is("one told wrong: none", x.sat(0, 0), 0);
        x.tell(1, 0);
        x.tell(2, 0);
        due.is("as much as the watch: all it is of", x.sat(0, 5), 1);
        x.tell(1, 3);
        due.is("both together are above the watch", x.sat(0, 5), 2);
        x.tell(1, 2);
        due.is("above the watch, but told less", x.sat(0, 5), 0);
        due.is("none is no refusal", x.status(0) + x.status(1) + x.status(2), 0);
    }

    private static void satRoom() {
        due.says("with the THING in it (ROOM or not); (whether it PASSES or not)");
        HorseGift x = Due.told("gift 0 0 0 0;gift 0 0 50 30;thing 9 20 20 5;gate 1 0;ear 1 0;scale 1 0;");
        x.tell(0, 5);
        due.is("no room, no gate", x.sat(0, 0), 1);
        x.tell(0, 0);
        x.tell(1, 5);
        due.is("no gate", x.sat(0, 0), 2);
        HorseGift y = Due.told("gift 0 0 0 9;thing 1 0 0 0;");
        due.is("a harmless one", y.sat(0, 0), 1);
        HorseGift z = Due.told("thing 1 0 0 0;");
        due.is("no gifts", z.sat(0, 0), 0);
        HorseGift all = Due.told("gift 0 0 0 0;gift 0 0 0 0;gift 0 0 0 0;gift 0 0 0 0;gift 0 0 0 0;gift 0 0 0 0;"
            + "thing 1 0 0 9;watch 1 0 9;");
        due.is("all gifts", all.sat(0, 0), 63);
        due.is("none of them", all.sat(0, 1), 0);
        HorseGift most = Due.told("gift 0 0 0 9;thing1 0 0 20;thing1 0 0 20;thing1 0 0 20;thing1 0 0 20;thing1 0 0 19;"
            + "thing1 0 0 20;");
        for (int t = 0; t < 4; t++) {
            most.put(t, 0);
        }
        most.tell(0, 99);
        due.is("ninety-nine", most.sat(4, 0), 1);
        due.is("a hundred can not be told", most.sat(5, 0), 0);
    }

    private static void satWhere() {
        due.says("SAT of a THING that is in none; BAD; NO: it is in a GIFT");
        HorseGift x = Due.told("gift 0 0 0 9;thing 1 0 0 0;thing 1 0 0 0;in 1 0;");
        due.is("in none", x.sat(0, 5), 1);
        due.no(x, 22, 1, 5);
        due.bad(x, 22, 2, 5);
        due.bad(x, 22, -1, 5);
        due.bad(x, 22, 0, 6);
        due.bad(x, 22, 0, -1);
        x.out(1);
        due.is("out", x.sat(1, 0), 1);
    }

    private static void cartsBear() {
        due.says("a bridge that bears b (0 .. 400); none, if that is more than b; NONE: more than b anyway");
        HorseGift x = Due.told("gift 0 0 50 9;gift 0 0 1 9;thing 1 20 0 0;in 0 0;");
        due.is("as much as it bears", x.carts(0, 70, 1, -1), 70);
        due.is("as much as it bears, which", x.carts(0, 70, 1, 0), 0);
        due.is("one less", x.carts(0, 69, 1, -1), -1);
        due.is("one less, which", x.carts(0, 69, 1, 0), -1);
        due.is("one less, at a place that is none", x.carts(0, 69, 1, 2), -1);
        due.is("both on it", x.carts(0, 71, 2, -1), 71);
        due.is("both on it, one less", x.carts(0, 70, 2, -1), -1);
        due.is("bears nothing", x.carts(0, 0, 1, -1), -1);
        due.is("bears the most", x.carts(0, 400, 3, -1), 71);
        due.is("none is no refusal", x.status(0) + x.status(1) + x.status(2), 0);
        HorseGift y = Due.told("gift 0 1 0 9;gift 0 1 0 9;");
        due.is("what weighs nothing on what bears nothing", y.carts(1, 0, 3, -1), 0);
        due.is("which", y.carts(1, 0, 3, 1), 1);
        HorseGift living = Due.told("gift 2 0 5 9;gift 0 1 0 16;");
        for (int day = 0; day <= 10; day++) {
            due.is("a living one on day " + day, living.carts(0, 14, 1, -1), 5 + Math.min(day, 9));
            living.send(1, 0);
        }
        due.is("one less", living.carts(0, 13, 1, -1), -1);
        living.send(0, 0);
        due.is("it is drawn where it is now", living.carts(0, 0, 1, -1), 0);
        due.is("with the other one", living.carts(1, 400, 2, -1), 14);
        HorseGift z = new HorseGift();
        due.is("nothing on what bears nothing", z.carts(0, 0, 1, -1), 0);
        due.bad(z, 23, 0, -1, 1, -1);
        due.bad(z, 23, 0, 401, 1, -1);
    }

    private static void cartsFewer() {
        due.says("c (1 .. 3) neighbours at a time on it (all, if there are fewer)");
        HorseGift x = Due.told("gift 0 0 7 9;");
        HorseGift y = Due.told("gift 0 0 7 9;gift 0 0 5 9;");
        HorseGift z = Due.told("gift 0 0 7 9;gift 0 0 5 9;gift 0 0 1 9;");
        int[][] least = {{7, 7, 7}, {7, 12, 12}, {7, 8, 13}};
        for (int c = 1; c <= 3; c++) {
            due.is("one gift, " + c, x.carts(0, 400, c, -1), least[0][c - 1]);
            due.is("two gifts, " + c, y.carts(0, 400, c, -1), least[1][c - 1]);
            due.is("three gifts, " + c, z.carts(0, 400, c, -1), least[2][c - 1]);
        }
        due.bad(x, 23, 0, 400, 0, -1);
        due.bad(x, 23, 0, 400, 4, -1);
    }

    private static void order(HorseGift x, int c, int... order) {
        for (int place = 0; place < order.length; place++) {
            due.is(c + " at a time, at " + place, x.carts(0, 400, c, place), order[place]);
        }
        due.is(c + " at a time, behind the last", x.carts(0, 400, c, order.length), -5);
    }

    private static void cartsLikeOnes() {
        due.says("the order by which the greatest load .. is least; of like ones the first (by numbers)");
        HorseGift x = Due.told("gift 0 0 4 9;gift 0 0 4 9;gift 0 0 4 9;gift 0 0 4 9;gift 0 0 4 9;gift 0 0 4 9;");
        for (int c = 1; c <= 3; c++) {
            due.is("all alike", x.carts(0, 400, c, -1), 4 * c);
            order(x, c, 0, 1, 2, 3, 4, 5);
        }
        HorseGift y = Due.told("gift 0 0 9 9;gift 0 1 1 9;gift 0 0 9 9;gift 0 0 1 9;");
        due.is("two heavy ones apart", y.carts(0, 400, 2, -1), 10);
        order(y, 2, 0, 3, 2);
        order(y, 1, 0, 2, 3);
        order(y, 3, 0, 2, 3);
        HorseGift z = Due.told("gift 0 0 1 9;gift 0 0 9 9;gift 0 0 2 9;gift 0 0 9 9;");
        due.is("the heavy ones at the ends", z.carts(0, 400, 2, -1), 11);
        order(z, 2, 0, 1, 2, 3);
        HorseGift w = Due.told("gift 0 0 1 9;gift 0 0 2 9;gift 0 0 8 9;gift 0 0 9 9;");
        due.is("nine beside one alone", w.carts(0, 400, 2, -1), 10);
        order(w, 2, 1, 2, 0, 3);
    }

    private static void cartsPlaces() {
        due.says("how much (place = NONE), which at a place. -5: not so many.");
        HorseGift x = Due.told("gift 0 0 1 9;gift 0 1 2 9;gift 0 1 3 9;");
        due.is("how much", x.carts(1, 400, 1, -1), 3);
        due.is("the first", x.carts(1, 400, 1, 0), 1);
        due.is("the last", x.carts(1, 400, 1, 1), 2);
        due.is("behind the last", x.carts(1, 400, 1, 2), -5);
        due.is("far behind", x.carts(1, 400, 1, Integer.MAX_VALUE), -5);
        due.is("not so many in the other city", x.carts(0, 400, 1, 1), -5);
        due.bad(x, 23, 1, 400, 1, -2);
        due.bad(x, 23, 1, 400, 1, Integer.MIN_VALUE);
        HorseGift y = new HorseGift();
        due.is("no gifts: how much", y.carts(1, 0, 3, -1), 0);
        due.is("no gifts: the first", y.carts(1, 0, 3, 0), -5);
        due.is("not so many is no refusal", y.status(0) + y.status(1) + y.status(2), 0);
    }

    private static void yearsNone() {
        due.says("n (0 .. 90) GIFTS");
        HorseGift x = Due.told("gift 0 0 0 16;");
        due.is("none", x.years(1, 0, 999999), 0);
        due.is("one", x.years(1, 1, 999999), 1);
        due.is("ninety", x.years(1, 90, 999999), 90);
        due.is("by the other city", x.years(0, 90, 999999), 0);
        due.bad(x, 24, 1, 91, 0);
        due.bad(x, 24, 1, -1, 0);
    }

    /** Six gifts of both cities, a thing in each but one, watches by all hours: each gift and each hour counts. */
    private static HorseGift many() {
        HorseGift x = new HorseGift();
        for (int n = 0; n < 6; n++) {
            x.gift(n, n % 2, 0, 9);
            x.watch(0, n, 3 * n);
            x.watch(1, n, 15 - 2 * n);
            if (n < 5) {
                x.put(x.thing(1, 0, 1, 20 - n), n);
            }
        }
        return x;
    }

    /** X as the document tells it, by parts of 16 bits, so that no product is beyond a long. */
    private static long next(long x) {
        long low = x * (1103515245L & 0xffff);
        long high = x * (1103515245L >> 16) % 32768 * 65536;
        return (low % 2147483648L + high % 2147483648L + 12345) % 2147483648L;
    }

    private static void yearsSeeds() {
        due.says("SEED (0 .. 999999); X becomes X times 1103515245 and 12345, by 2147483648 what is left over");
        int[] seeds = {0, 1, 2, 7, 77, 777, 65535, 65536, 123456, 999998, 999999};
        for (int seed : seeds) {
            HorseGift x = many();
            HorseGift sent = many();
            long z = seed;
            for (int n = 1; n <= 90; n++) {
                z = next(z);
                int gift = (int) (z / 65536) % 6;
                z = next(z);
                sent.send(gift, (int) (z / 65536) % 6);
                if (n % 10 == 0 || n < 6) {
                    due.is("city 0, seed " + seed + ", " + n, x.years(0, n, seed), sent.about(0, 3));
                    due.is("city 1, seed " + seed + ", " + n, x.years(1, n, seed), sent.about(1, 3));
                }
            }
        }
        due.bad(many(), 24, 0, 1, -1);
        due.bad(many(), 24, 0, 1, 1000000);
    }

    private static void yearsLost() {
        due.says("as it is told above, one after the other: what a CITY has LOST at last");
        HorseGift x = Due.told("gift 0 0 0 9;gift 0 0 0 16;thing 1 0 0 7;in 0 0;");
        x.send(1, 0);
        due.is("what is lost ahead of them", x.years(1, 0, 5), 1);
        due.is("the day ahead of them", x.count(2), 1);
        // By seed 0 the first X is 12345, so gift 0 comes: an echo.
        HorseGift y = Due.told("gift 5 0 0 9;gift 0 1 0 16;thing 1 0 0 7;in 0 0;");
        due.is("an echo from an even day on", y.years(1, 1, 0), 7);
        y.send(1, 0);
        due.is("an echo from an odd day on", y.years(1, 1, 0), 0);
        due.is("what the other city has lost ahead of it", y.years(0, 1, 0), 1);
    }

    private static void yearsNo() {
        due.says("YEARS. BAD; NO: no GIFTS");
        HorseGift x = Due.told("thing 1 0 0 0;");
        due.no(x, 24, 0, 0, 0);
        due.no(x, 24, 1, 90, 999999);
        x.gift(0, 0, 0, 0);
        due.is("one gift", x.years(1, 90, 999999), 0);
    }
}
