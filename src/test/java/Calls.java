/** The calls of the face by their numbers in the document, with the numbers that each takes. */
final class Calls {
    static final String[] NAMES = {"", "", "thing", "gift", "put", "out", "city", "watch", "type", "clear",
        "read", "send", "undo", "of", "about", "hide", "wide", "belief", "knocks", "game", "stand", "tell", "sat",
        "carts", "years", "part", "image", "from", "status", "count", "digest"};

    private Calls() {
    }

    /** A call's answer; numbers that it does not take are left, and belief hears by an odd third one. */
    static long answer(HorseGift x, int call, int... a) {
        switch (call) {
            case 2: return x.thing(a[0], a[1], a[2], a[3]);
            case 3: return x.gift(a[0], a[1], a[2], a[3]);
            case 4: return x.put(a[0], a[1]);
            case 5: return x.out(a[0]);
            case 6: return x.city(a[0], a[1], a[2]);
            case 7: return x.watch(a[0], a[1], a[2]);
            case 8: return x.type(a[0]);
            case 9: return x.clear();
            case 10: return x.read();
            case 11: return x.send(a[0], a[1]);
            case 12: return x.undo();
            case 13: return x.of(a[0], a[1]);
            case 14: return x.about(a[0], a[1]);
            case 15: return x.hide(a[0], a[1], a[2]);
            case 16: return x.wide(a[0], a[1]);
            case 17: return x.belief(a[0], a[1], a[2] % 2 != 0);
            case 18: return x.knocks(a[0], a[1], a[2]);
            case 19: return x.game(a[0], a[1], a[2]);
            case 20: return x.stand(a[0], a[1]);
            case 21: return x.tell(a[0], a[1]);
            case 22: return x.sat(a[0], a[1]);
            case 23: return x.carts(a[0], a[1], a[2], a[3]);
            case 24: return x.years(a[0], a[1], a[2]);
            case 25: return x.part(a[0]);
            case 26: return x.image(a[0]);
            case 27: return x.from(a[0]);
            case 28: return x.status(a[0]);
            case 29: return x.count(a[0]);
            default: return x.digest();
        }
    }

    static String spelled(int call, int... a) {
        StringBuilder s = new StringBuilder(NAMES[call]).append('(');
        for (int i = 0; i < a.length; i++) {
            s.append(i == 0 ? "" : ", ").append(a[i]);
        }
        return s.append(')').toString();
    }
}
