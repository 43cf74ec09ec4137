/** Promises 11 to 14: gifts sent, undone, and what is said of gifts and cities. */
final class GiftsTest {
    private static final Due due = new Due();

    public static void main(String[] args) {
        send();
        sendWrong();
        passing();
        undo();
        undoMost();
        undoRowsMoved();
        undoLeavesTheRest();
        of();
        ofDays();
        about();
        due.end("GiftsTest");
    }

    private static void send() {
        HorseGift x = Due.told("thing 1 2 3 9;thing 1 2 3 7;gift 0 0 5 15;in 0 0;in 1 0;watch 1 2 6;");
        due.is("harm above the watch", x.send(0, 2), 10);
        due.is("the other city has it", x.of(0, 1), 1);
        due.is("nothing is in it", x.of(0, 5), 0);
        due.is("things are in none", x.count(3), 0);
        due.is("lost", x.about(1, 3), 10);
        due.is("the sender lost nothing", x.about(0, 3), 0);
        due.is("a day", x.count(2), 1);
        x.put(1, 0);
        x.watch(0, 0, 7);
        due.is("given on, as much as the watch", x.send(0, 0), 0);
        x.put(0, 0);
        x.watch(1, 5, 20);
        due.is("less than the watch", x.send(0, 5), 0);
        due.is("lost is the same", x.about(1, 3), 10);
        x.put(0, 0);
        x.city(0, 0, 14);
        due.is("refused", x.send(0, 1), -5);
        due.is("it stays", x.of(0, 1), 1);
        due.is("with what is in it", x.of(0, 5), 1);
        due.is("one lost", x.about(0, 3), 1);
        due.is("a day for the refused one", x.count(2), 4);
        due.is("no status", x.status(0) + x.status(1) + x.status(2), 0);
    }

    private static void sendWrong() {
        HorseGift x = Due.told("gift 0 0 5 15;");
        long digest = x.digest();
        due.refused(x, "no such gift", x.send(1, 0), -10, 0, 0, digest);
        due.refused(x, "no such gift below", x.send(-1, 0), -10, 0, 1, digest);
        due.refused(x, "no such hour", x.send(0, 6), -10, 0, 2, digest);
        due.refused(x, "no such hour below", x.send(0, -1), -10, 0, 3, digest);
        due.is("none may be undone", x.count(4), 0);
    }

    private static void passing() {
        HorseGift x = Due.told("thing 1 10 10 0;gift 0 1 20 15;in 0 0;ear 0 11;scale 0 30;gate 0 15;");
        due.is("passes by all three", x.of(0, 6), 1);
        x.city(0, 1, 10);
        due.is("as loud as the ear", x.of(0, 6), 0);
        x.city(0, 1, 11);
        x.city(0, 2, 29);
        due.is("heavier than the scale", x.of(0, 6), 0);
        x.city(0, 2, 30);
        x.city(0, 0, 14);
        due.is("more room than the gate", x.of(0, 6), 0);
        x.city(0, 0, 15);
        due.is("passes anew", x.of(0, 6), 1);
        x.city(1, 0, 0);
        x.city(1, 1, 0);
        x.city(1, 2, 0);
        due.is("its own city does not matter", x.of(0, 6), 1);
    }

    private static void undo() {
        HorseGift x = Due.told("thing 1 1 1 5;thing 1 1 1 3;gift 0 0 1 9;gift 0 1 1 16;");
        long first = x.digest();
        x.put(0, 0);
        long second = x.digest();
        x.put(1, 0);
        long third = x.digest();
        x.out(0);
        long fourth = x.digest();
        x.send(0, 0);
        long fifth = x.digest();
        x.send(1, 0);
        due.is("five may be undone", x.count(4), 5);
        due.is("a refused one undone", x.undo(), 1);
        due.is("as before it", x.digest(), fifth);
        due.is("a sent one undone", x.undo(), 1);
        due.is("as before it", x.digest(), fourth);
        due.is("its things are in it", x.of(0, 5), 2);
        due.is("one taken undone", x.undo(), 1);
        due.is("as before it", x.digest(), third);
        due.is("one put undone", x.undo(), 1);
        due.is("as before it", x.digest(), second);
        due.is("one put undone", x.undo(), 1);
        due.is("as before it", x.digest(), first);
        due.refused(x, "none may be", x.undo(), -3, 1, 0, first);
    }

    private static void undoMost() {
        HorseGift x = Due.told("gift 0 0 1 9;");
        for (int n = 1; n <= 10; n++) {
            x.send(0, 0);
            due.is("may be undone", x.count(4), Math.min(n, 8));
        }
        for (int n = 0; n < 8; n++) {
            due.is("undo " + n, x.undo(), 1);
        }
        due.is("two days stay", x.count(2), 2);
        due.is("the ninth", x.undo(), -3);
        x.send(0, 0);
        due.is("undo of a new one", x.undo(), 1);
        due.is("two days", x.count(2), 2);
    }

    /** Twelve changes, of which the last eight are undone: each time all is as it was, but for count(4). */
    private static void undoRowsMoved() {
        HorseGift x = Due.told("thing 1 1 1 5;gift 0 0 1 9;gift 0 1 1 9;");
        long[] digests = new long[12];
        for (int n = 0; n < 12; n++) {
            digests[n] = x.digest() - weightOfUndone() * x.count(4);
            if (n % 3 == 0) {
                x.put(0, n % 2);
            } else {
                x.send(n % 3 - 1, n % 6);
            }
        }
        for (int n = 11; n >= 4; n--) {
            due.is("undo of " + n, x.undo(), 1);
            due.is("left to be undone", x.count(4), n - 4);
            due.is("as before " + n, x.digest() - weightOfUndone() * x.count(4), digests[n]);
        }
        due.is("none is left", x.undo(), -3);
    }

    /** By what count(4) is multiplied in the digest of one thing and two gifts. */
    private static long weightOfUndone() {
        int valuesBehind = 1 + 5 + 2 * 5 + 2 * 10 + 2;
        long weight = 1;
        for (int i = 0; i < valuesBehind; i++) {
            weight *= 31;
        }
        return weight;
    }

    private static void undoLeavesTheRest() {
        HorseGift x = Due.told("thing 1 1 1 5;gift 0 0 1 9;");
        x.put(0, 0);
        x.send(0, 0);
        x.city(1, 0, 3);
        x.watch(1, 0, 4);
        x.tell(0, 44);
        x.clear();
        x.type('a');
        x.undo();
        due.is("the gate stays", x.about(1, 0), 3);
        due.is("the watch stays", x.watch(1, 0, 4), 4);
        due.is("what is told stays", x.tell(0, 44), 44);
        due.is("the text stays", x.count(5), 1);
        due.is("lost does not", x.about(1, 3), 0);
        x.gift(0, 7, 0, 0);
        x.thing(0, 0, 0, 0);
        due.is("refused ones leave what may be undone", x.count(4), 1);
        x.thing(1, 1, 1, 1);
        due.is("a thing leaves none", x.undo(), -3);
        x.out(0);
        x.gift(0, 0, 0, 0);
        due.is("a gift leaves none", x.undo(), -3);
        due.is("and it is out", x.of(0, 5), 0);
    }

    /** Weighs, sounds, harm of a gift with things of weights 7, 4, sounds 6, 5, harms 9, 6, and of an empty one. */
    private static void kind(int kind, int[] full, int[] bare) {
        HorseGift x = new HorseGift();
        x.thing(1, 7, 6, 9);
        x.thing(2, 4, 5, 6);
        x.gift(kind, 1, 20, 9);
        due.is("an empty one of kind " + kind + " weighs", x.of(0, 2), bare[0]);
        due.is("an empty one of kind " + kind + " sounds", x.of(0, 3), bare[1]);
        due.is("an empty one of kind " + kind + " harms", x.of(0, 4), bare[2]);
        x.put(0, 0);
        x.put(1, 0);
        due.is("kind", x.of(0, 0), kind);
        due.is("city", x.of(0, 1), 1);
        due.is("kind " + kind + " weighs", x.of(0, 2), full[0]);
        due.is("kind " + kind + " sounds", x.of(0, 3), full[1]);
        due.is("kind " + kind + " harms", x.of(0, 4), full[2]);
        due.is("things in it", x.of(0, 5), 3);
    }

    private static void of() {
        kind(0, new int[] {31, 11, 15}, new int[] {20, 0, 0});
        kind(1, new int[] {31, 5, 15}, new int[] {20, 0, 0});
        kind(2, new int[] {31, 14, 15}, new int[] {20, 3, 0});
        kind(3, new int[] {20, 11, 7}, new int[] {20, 0, 0});
        kind(4, new int[] {31, 5, 17}, new int[] {20, 0, 0});
        kind(5, new int[] {31, 28, 15}, new int[] {20, 6, 0});
        HorseGift x = Due.told("gift 4 0 1 1;thing 1 0 0 0;");
        long digest = x.digest();
        due.refused(x, "no such gift", x.of(1, 0), -2, 0, 0, digest);
        due.refused(x, "no such gift below", x.of(-1, 0), -2, 0, 1, digest);
        due.refused(x, "another what", x.of(0, 7), -2, 0, 2, digest);
        due.refused(x, "another what below", x.of(0, -1), -2, 0, 3, digest);
        x.put(0, 0);
        due.is("a harmless thing returned", x.of(0, 4), 2);
    }

    private static void ofDays() {
        HorseGift x = Due.told("thing 1 1 1 8;gift 0 0 9 9;gift 2 0 9 9;gift 5 0 9 9;gift 3 0 9 9;in 0 2;");
        for (int days = 0; days <= 12; days++) {
            int more = Math.min(days, 9);
            due.is("plain weighs", x.of(0, 2), 9);
            due.is("living weighs", x.of(1, 2), 9 + more);
            due.is("echo weighs", x.of(2, 2), 10 + more);
            due.is("law weighs", x.of(3, 2), 9);
            due.is("living sounds", x.of(1, 3), 3);
            due.is("echo sounds", x.of(2, 3), 8);
            due.is("echo harms", x.of(2, 4), days % 2 == 0 ? 8 : 0);
            x.send(0, 0);
        }
        due.is("harm of the day ahead of it", x.count(2), 13);
        due.is("an odd day's echo", x.send(2, 0), 0);
        x.put(0, 2);
        due.is("an even day's echo", x.send(2, 0), 8);
    }

    private static void about() {
        HorseGift x = Due.told("gift 0 0 0 0;gift 0 1 0 0;gift 0 0 0 16;gate 1 3;ear 0 4;scale 1 5;");
        due.is("gate", x.about(1, 0), 3);
        due.is("ear", x.about(0, 1), 4);
        due.is("scale", x.about(1, 2), 5);
        x.send(2, 0);
        x.send(2, 0);
        due.is("lost", x.about(1, 3), 2);
        due.is("lost of the other", x.about(0, 3), 0);
        due.is("gifts of 0", x.about(0, 4), 5);
        due.is("gifts of 1", x.about(1, 4), 2);
        x.send(0, 0);
        due.is("gifts of 0", x.about(0, 4), 4);
        due.is("gifts of 1", x.about(1, 4), 3);
        long digest = x.digest();
        due.refused(x, "another city", x.about(2, 0), -2, 0, 0, digest);
        due.refused(x, "another city below", x.about(-1, 0), -2, 0, 1, digest);
        due.refused(x, "another what", x.about(0, 5), -2, 0, 2, digest);
        due.refused(x, "another what below", x.about(1, -1), -2, 0, 3, digest);
    }
}
