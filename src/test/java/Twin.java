import java.math.BigInteger;
import java.util.ArrayDeque;
import java.util.ArrayList;
import java.util.Deque;
import java.util.List;
import java.util.Map;
import java.util.Set;
import java.util.TreeSet;
import java.util.regex.Matcher;
import java.util.regex.Pattern;

/**
 * The document written a second time, with the whole Java library and other means: kinds as classes over one
 * another, sets as sets, every question answered by trying all. TwinTest holds the program against it.
 */
final class Twin {
    /** A call is refused; the answer stands for its reason. */
    private static final class Refusal extends RuntimeException {
        private static final long serialVersionUID = 1;
        final int reason;

        Refusal(int itsReason) {
            super(null, null, false, false);
            reason = itsReason;
        }
    }

    private record Thing(int size, int weight, int sound, int harm) {
    }

    private static class Plain {
        int weighs(Gift g, List<Thing> in, int days) {
            return g.empty + in.stream().mapToInt(Thing::weight).sum();
        }

        int sounds(List<Thing> in) {
            return in.stream().mapToInt(Thing::sound).sum();
        }

        int harms(List<Thing> in, int days) {
            return in.stream().mapToInt(Thing::harm).sum();
        }
    }

    private static class Twofold extends Plain {
        @Override
        int sounds(List<Thing> in) {
            return super.sounds(in) / 2;
        }
    }

    private static class Living extends Plain {
        @Override
        int weighs(Gift g, List<Thing> in, int days) {
            return super.weighs(g, in, days) + (days > 9 ? 9 : days);
        }

        @Override
        int sounds(List<Thing> in) {
            return super.sounds(in) + 3;
        }
    }

    private static final class Law extends Plain {
        @Override
        int weighs(Gift g, List<Thing> in, int days) {
            return g.empty;
        }

        @Override
        int harms(List<Thing> in, int days) {
            return super.harms(in, days) / 2;
        }
    }

    private static final class Returned extends Twofold {
        @Override
        int harms(List<Thing> in, int days) {
            return super.harms(in, days) + (in.isEmpty() ? 0 : 2);
        }
    }

    private static final class Echo extends Living {
        @Override
        int sounds(List<Thing> in) {
            return 2 * super.sounds(in);
        }

        @Override
        int harms(List<Thing> in, int days) {
            return days % 2 != 0 ? 0 : super.harms(in, days);
        }
    }

    private static final List<Plain> KINDS =
        List.of(new Plain(), new Twofold(), new Living(), new Law(), new Returned(), new Echo());

    private static final class Gift {
        int kind;
        int city;
        int empty;
        int room;
        int told;
        Set<Integer> in = new TreeSet<>();

        Gift copy() {
            Gift g = new Gift();
            g.kind = kind;
            g.city = city;
            g.empty = empty;
            g.room = room;
            g.told = told;
            g.in = new TreeSet<>(in);
            return g;
        }
    }

    private static final class City {
        int[] measures = {15, 10, 60};
        int[] watch = new int[6];
        int lost;

        City copy() {
            City c = new City();
            c.measures = measures.clone();
            c.watch = watch.clone();
            c.lost = lost;
            return c;
        }
    }

    private static final class War {
        List<Thing> things = new ArrayList<>();
        List<Gift> gifts = new ArrayList<>();
        City[] cities = {new City(), new City()};
        int days;
        Deque<War> past = new ArrayDeque<>();

        War copy() {
            War w = new War();
            w.things = new ArrayList<>(things);
            for (Gift g : gifts) {
                w.gifts.add(g.copy());
            }
            w.cities = new City[] {cities[0].copy(), cities[1].copy()};
            w.days = days;
            w.past = new ArrayDeque<>(past);
            return w;
        }

        void remember() {
            past.addLast(copy());
            if (past.size() > 8) {
                past.removeFirst();
            }
        }

        Gift with(int thing) {
            return gifts.stream().filter(g -> g.in.contains(thing)).findFirst().orElse(null);
        }

        City other(Gift g) {
            return cities[g.city == 0 ? 1 : 0];
        }

        List<Thing> of(Set<Integer> set) {
            return set.stream().map(things::get).toList();
        }

        int weighs(Gift g, Set<Integer> set) {
            return KINDS.get(g.kind).weighs(g, of(set), days);
        }

        int sounds(Gift g, Set<Integer> set) {
            return KINDS.get(g.kind).sounds(of(set));
        }

        int harms(Gift g, Set<Integer> set) {
            return KINDS.get(g.kind).harms(of(set), days);
        }

        boolean passes(Gift g, Set<Integer> set, int gate, int ear) {
            return g.room <= gate && sounds(g, set) < ear && weighs(g, set) <= other(g).measures[2];
        }

        boolean passes(Gift g, Set<Integer> set) {
            return passes(g, set, other(g).measures[0], other(g).measures[1]);
        }

        int loss(Gift g, Set<Integer> set, int hour) {
            int more = harms(g, set) - other(g).watch[hour];
            return more > 0 ? more : 0;
        }

        /** Every set of things in none and in the gift. */
        List<Set<Integer>> sets(Gift g) {
            List<Set<Integer>> all = new ArrayList<>();
            all.add(new TreeSet<>());
            for (int t = 0; t < things.size(); t++) {
                if (with(t) != null && with(t) != g) {
                    continue;
                }
                for (Set<Integer> set : List.copyOf(all)) {
                    Set<Integer> more = new TreeSet<>(set);
                    more.add(t);
                    all.add(more);
                }
            }
            return all;
        }

        int send(Gift g, int hour) {
            City other = other(g);
            int answer = -5;
            if (passes(g, g.in)) {
                answer = loss(g, g.in, hour);
                other.lost += answer;
                g.city = 1 - g.city;
                g.in.clear();
            } else {
                other.lost += 1;
            }
            days++;
            return answer;
        }
    }

    private War war = new War();
    private final War[] images = new War[2];
    private String text = "";
    private BigInteger above = BigInteger.ZERO;
    private BigInteger below = BigInteger.ONE;
    private final int[] status = new int[3];

    private static void told(boolean asTold) {
        if (!asTold) {
            throw new Refusal(-2);
        }
    }

    private static void may(boolean can) {
        if (!can) {
            throw new Refusal(-3);
        }
    }

    private static void fits(boolean does) {
        if (!does) {
            throw new Refusal(-4);
        }
    }

    private static boolean in(int n, int from, int to) {
        return from <= n && n <= to;
    }

    private Gift giftAt(int n) {
        told(in(n, 0, war.gifts.size() - 1));
        return war.gifts.get(n);
    }

    private static int bits(Iterable<Integer> set) {
        int b = 0;
        for (int n : set) {
            b += 1 << n;
        }
        return b;
    }

    private static Set<Integer> setOf(int bits) {
        Set<Integer> set = new TreeSet<>();
        for (int n = 0; n < 31; n++) {
            if (bits / (1 << n) % 2 == 1) {
                set.add(n);
            }
        }
        return set;
    }

    /** A call by its number in the face, with its numbers; heard is told by an odd c. */
    long call(int call, int[] a) {
        try {
            return answer(call, a);
        } catch (Refusal r) {
            status[-2 - r.reason]++;
            boolean ten = call == 11 || call == 15 || call == 19 || call == 23;
            return call == 28 ? -1 : ten ? -10 : r.reason;
        }
    }

    private long answer(int call, int[] a) {
        switch (call) {
            case 2: return thing(war, a[0], a[1], a[2], a[3]);
            case 3: return gift(war, a[0], a[1], a[2], a[3]);
            case 4: return put(war, a[0], a[1]);
            case 5: return out(a[0]);
            case 6: return city(war, a[0], a[1], a[2]);
            case 7: return watch(war, a[0], a[1], a[2]);
            case 8: return type(a[0]);
            case 9: return clear();
            case 10: return read();
            case 11: return send(a[0], a[1]);
            case 12: return undo();
            case 13: return of(a[0], a[1]);
            case 14: return about(a[0], a[1]);
            case 15: return hide(a[0], a[1], a[2]);
            case 16: return wide(a[0], a[1]);
            case 17: return belief(a[0], a[1], a[2] % 2 != 0);
            case 18: return knocks(a[0], a[1], a[2]);
            case 19: return game(a[0], a[1], a[2]);
            case 20: return stand(a[0], a[1]);
            case 21: return tell(a[0], a[1]);
            case 22: return sat(a[0], a[1]);
            case 23: return carts(a[0], a[1], a[2], a[3]);
            case 24: return years(a[0], a[1], a[2]);
            case 25: return part(a[0]);
            case 26: return image(a[0]);
            case 27: return from(a[0]);
            case 28: return status(a[0]);
            case 29: return count(a[0]);
            default: return digest();
        }
    }

    private static int thing(War w, int size, int weight, int sound, int harm) {
        told(in(size, 1, 9) && in(weight, 0, 20) && in(sound, 0, 20) && in(harm, 0, 20));
        fits(w.things.size() < 8);
        w.things.add(new Thing(size, weight, sound, harm));
        w.past.clear();
        return w.things.size() - 1;
    }

    private static int gift(War w, int kind, int city, int empty, int room) {
        told(in(kind, 0, 5) && in(city, 0, 1) && in(empty, 0, 50) && in(room, 0, 30));
        fits(w.gifts.size() < 6);
        Gift g = new Gift();
        g.kind = kind;
        g.city = city;
        g.empty = empty;
        g.room = room;
        w.gifts.add(g);
        w.past.clear();
        return w.gifts.size() - 1;
    }

    private static int put(War w, int thing, int gift) {
        told(in(thing, 0, w.things.size() - 1) && in(gift, 0, w.gifts.size() - 1));
        Gift g = w.gifts.get(gift);
        may(w.with(thing) == null);
        may(w.of(g.in).stream().mapToInt(Thing::size).sum() + w.things.get(thing).size() <= g.room);
        w.remember();
        g.in.add(thing);
        return 1;
    }

    private int out(int thing) {
        told(in(thing, 0, war.things.size() - 1));
        Gift g = war.with(thing);
        may(g != null);
        war.remember();
        g.in.remove(thing);
        return war.gifts.indexOf(g);
    }

    private static int city(War w, int city, int what, int n) {
        told(in(city, 0, 1) && in(what, 0, 2) && in(n, 0, List.of(30, 50, 200).get(what)));
        int was = w.cities[city].measures[what];
        w.cities[city].measures[what] = n;
        return was;
    }

    private static int watch(War w, int city, int hour, int n) {
        told(in(city, 0, 1) && in(hour, 0, 5) && in(n, 0, 20));
        int was = w.cities[city].watch[hour];
        w.cities[city].watch[hour] = n;
        return was;
    }

    private int type(int c) {
        told(in(c, 0, 127));
        fits(text.length() < 150);
        text += (char) c;
        return text.length();
    }

    private int clear() {
        int had = text.length();
        text = "";
        return had;
    }

    private static final Pattern TOKEN = Pattern.compile("[a-z]+|[0-9]+|;", Pattern.DOTALL);
    private static final Map<String, Integer> ITEMS =
        Map.of("thing", 4, "gift", 4, "in", 2, "gate", 2, "ear", 2, "scale", 2, "watch", 3);

    private int read() {
        List<List<String>> items = new ArrayList<>();
        List<String> item = new ArrayList<>();
        int at = 0;
        while (at < text.length()) {
            if (text.charAt(at) == ' ') {
                at++;
                continue;
            }
            Matcher m = TOKEN.matcher(text).region(at, text.length());
            if (!m.lookingAt() || !canStand(item, m.group())) {
                return -10 - at;
            }
            item.add(m.group());
            at = m.end();
            if (m.group().equals(";")) {
                items.add(item);
                item = new ArrayList<>();
            }
        }
        if (!item.isEmpty()) {
            return -10 - text.length();
        }
        War fresh = new War();
        for (int i = 0; i < items.size(); i++) {
            try {
                take(fresh, items.get(i));
            } catch (Refusal r) {
                return -1000 - i;
            }
        }
        fresh.past.clear();
        war = fresh;
        return items.size();
    }

    private static boolean canStand(List<String> ahead, String token) {
        if (ahead.isEmpty()) {
            return ITEMS.containsKey(token);
        }
        boolean all = ahead.size() == 1 + ITEMS.get(ahead.get(0));
        return all ? token.equals(";") : token.matches("[0-9]{1,3}");
    }

    private static void take(War w, List<String> item) {
        int[] a = new int[4];
        for (int i = 1; i < item.size() - 1; i++) {
            a[i - 1] = Integer.parseInt(item.get(i));
        }
        switch (item.get(0)) {
            case "thing" -> thing(w, a[0], a[1], a[2], a[3]);
            case "gift" -> gift(w, a[0], a[1], a[2], a[3]);
            case "in" -> put(w, a[0], a[1]);
            case "watch" -> watch(w, a[0], a[1], a[2]);
            default -> city(w, a[0], List.of("gate", "ear", "scale").indexOf(item.get(0)), a[1]);
        }
    }

    private int send(int gift, int hour) {
        Gift g = giftAt(gift);
        told(in(hour, 0, 5));
        war.remember();
        return war.send(g, hour);
    }

    private int undo() {
        may(!war.past.isEmpty());
        War before = war.past.removeLast();
        for (int g = 0; g < war.gifts.size(); g++) {
            war.gifts.get(g).city = before.gifts.get(g).city;
            war.gifts.get(g).in = new TreeSet<>(before.gifts.get(g).in);
        }
        war.days = before.days;
        war.cities[0].lost = before.cities[0].lost;
        war.cities[1].lost = before.cities[1].lost;
        return 1;
    }

    private int of(int gift, int what) {
        Gift g = giftAt(gift);
        told(in(what, 0, 6));
        return List.of(g.kind, g.city, war.weighs(g, g.in), war.sounds(g, g.in), war.harms(g, g.in), bits(g.in),
            war.passes(g, g.in) ? 1 : 0).get(what);
    }

    private int about(int city, int what) {
        told(in(city, 0, 1) && in(what, 0, 4));
        City c = war.cities[city];
        return List.of(c.measures[0], c.measures[1], c.measures[2], c.lost, bits(numbersOf(city))).get(what);
    }

    private List<Integer> numbersOf(int city) {
        List<Integer> numbers = new ArrayList<>();
        for (int g = 0; g < war.gifts.size(); g++) {
            if (war.gifts.get(g).city == city) {
                numbers.add(g);
            }
        }
        return numbers;
    }

    private int hide(int gift, int hour, int what) {
        Gift g = giftAt(gift);
        told(in(hour, 0, 5) && in(what, 0, 1));
        return war.sets(g).stream()
            .filter(s -> war.of(s).stream().mapToInt(Thing::size).sum() <= g.room && war.passes(g, s))
            .min((s, o) -> {
                int byLoss = Integer.compare(war.loss(g, o, hour), war.loss(g, s, hour));
                int byCount = Integer.compare(s.size(), o.size());
                return byLoss != 0 ? byLoss : byCount != 0 ? byCount : Integer.compare(bits(s), bits(o));
            })
            .map(s -> what == 0 ? bits(s) : war.loss(g, s, hour)).orElse(-1);
    }

    private int wide(int city, int what) {
        told(in(city, 0, 1) && in(what, 0, 1));
        for (int n = 0; n <= (what == 0 ? 30 : 50); n++) {
            int tried = n;
            City other = war.cities[1 - city];
            if (war.gifts.stream().filter(g -> g.city == city && !g.in.isEmpty())
                .allMatch(g -> what == 0 ? war.passes(g, g.in, tried, other.measures[1])
                    : war.passes(g, g.in, other.measures[0], tried))) {
                return n;
            }
        }
        return -1;
    }

    private int belief(int gift, int c, boolean heard) {
        Gift g = giftAt(gift);
        told(in(c, 0, 10));
        List<Set<Integer>> all = war.sets(g);
        int n = all.get(all.size() - 1).size();
        BigInteger every = BigInteger.ZERO;
        BigInteger none = BigInteger.ZERO;
        for (Set<Integer> s : all) {
            if (heard == (war.sounds(g, s) >= war.other(g).measures[1])) {
                BigInteger chance = BigInteger.valueOf(c).pow(s.size())
                    .multiply(BigInteger.valueOf(10 - c).pow(n - s.size()));
                every = every.add(chance);
                none = s.isEmpty() ? none.add(chance) : none;
            }
        }
        may(every.signum() > 0);
        above = none.divide(none.gcd(every));
        below = every.divide(none.gcd(every));
        return 1;
    }

    private int knocks(int gift, int one, int other) {
        Gift g = giftAt(gift);
        int sets = (int) Math.pow(2, war.things.size());
        told(in(one, 0, sets - 1) && in(other, 0, sets - 1));
        City c = war.other(g);
        boolean ear = (war.sounds(g, setOf(one)) < c.measures[1]) ^ (war.sounds(g, setOf(other)) < c.measures[1]);
        boolean scale = (war.weighs(g, setOf(one)) > c.measures[2]) ^ (war.weighs(g, setOf(other)) > c.measures[2]);
        return ear ? scale ? 3 : 1 : scale ? 2 : 0;
    }

    private int game(int gift, int hour, int what) {
        Gift g = giftAt(gift);
        told(in(hour, 0, 5) && in(what, 0, 1));
        int inside = g.in.isEmpty() ? 0 : 1;
        int[][] sender = {{0, 2, 4 * inside}, {0, 2, 0}};
        int[][] other = {{war.loss(g, g.in, hour), 1, inside == 1 ? 3 : 6}, {war.loss(g, Set.of(), hour), 1, 6}};
        List<Integer> rest = new ArrayList<>();
        for (int s = 0; s < 2; s++) {
            for (int o = 0; o < 3; o++) {
                int least = Math.min(other[s][0], Math.min(other[s][1], other[s][2]));
                if (sender[s][o] == Math.min(sender[0][o], sender[1][o]) && other[s][o] == least) {
                    rest.add(10 * s + o);
                }
            }
        }
        return what == 0 ? rest.size() : rest.isEmpty() ? -1 : rest.get(0);
    }

    private int stand(int gift, int what) {
        Gift g = giftAt(gift);
        told(in(what, 0, 1));
        List<Integer> losses = new ArrayList<>();
        for (int hour = 0; hour < 6; hour++) {
            losses.add(war.loss(g, g.in, hour));
        }
        int least = losses.stream().min(Integer::compare).get();
        return what == 0 ? losses.indexOf(least) : least;
    }

    private int tell(int gift, int n) {
        Gift g = giftAt(gift);
        told(in(n, 0, 99));
        int was = g.told;
        g.told = n;
        return was;
    }

    private int sat(int thing, int hour) {
        told(in(thing, 0, war.things.size() - 1) && in(hour, 0, 5));
        may(war.with(thing) == null);
        int fit = 0;
        for (int n = 0; n < war.gifts.size(); n++) {
            War tried = war.copy();
            tried.gifts.get(n).in.add(thing);
            if (tried.gifts.stream().allMatch(g -> tried.loss(g, g.in, hour) == g.told)) {
                fit += 1 << n;
            }
        }
        return fit;
    }

    private int carts(int city, int b, int c, int place) {
        told(in(city, 0, 1) && in(b, 0, 400) && in(c, 1, 3) && place >= -1);
        List<List<Integer>> orders = new ArrayList<>();
        permute(new ArrayList<>(), numbersOf(city), orders);
        List<Integer> best = null;
        int least = 0;
        for (List<Integer> order : orders) {
            int greatest = 0;
            int on = Math.min(c, order.size());
            for (int from = 0; from + on <= order.size(); from++) {
                int load = order.subList(from, from + on).stream()
                    .mapToInt(n -> war.weighs(war.gifts.get(n), war.gifts.get(n).in)).sum();
                greatest = Math.max(greatest, load);
            }
            if (best == null || greatest < least) {
                best = order;
                least = greatest;
            }
        }
        if (least > b) {
            return -1;
        }
        return place == -1 ? least : place >= best.size() ? -5 : best.get(place);
    }

    private static void permute(List<Integer> ahead, List<Integer> left, List<List<Integer>> all) {
        if (left.isEmpty()) {
            all.add(List.copyOf(ahead));
        }
        for (Integer n : left) {
            List<Integer> more = new ArrayList<>(ahead);
            List<Integer> less = new ArrayList<>(left);
            more.add(n);
            less.remove(n);
            permute(more, less, all);
        }
    }

    private int years(int city, int n, int seed) {
        told(in(city, 0, 1) && in(n, 0, 90) && in(seed, 0, 999999));
        may(!war.gifts.isEmpty());
        War tried = war.copy();
        BigInteger x = BigInteger.valueOf(seed);
        for (int i = 0; i < n; i++) {
            x = next(x);
            int gift = x.shiftRight(16).intValueExact() % war.gifts.size();
            x = next(x);
            tried.send(tried.gifts.get(gift), x.shiftRight(16).intValueExact() % 6);
        }
        return tried.cities[city].lost;
    }

    private static BigInteger next(BigInteger x) {
        return x.multiply(BigInteger.valueOf(1103515245)).add(BigInteger.valueOf(12345))
            .mod(BigInteger.valueOf(2147483648L));
    }

    private long part(int what) {
        told(in(what, 0, 1));
        return (what == 0 ? above : below).longValueExact();
    }

    private int image(int i) {
        told(in(i, 0, 1));
        images[i] = war.copy();
        return 1;
    }

    private int from(int i) {
        told(in(i, 0, 1));
        may(images[i] != null);
        war = images[i].copy();
        return 1;
    }

    private int status(int what) {
        told(in(what, 0, 2));
        return status[what];
    }

    private int count(int what) {
        told(in(what, 0, 5));
        return List.of(war.things.size(), war.gifts.size(), war.days,
            war.gifts.stream().mapToInt(g -> g.in.size()).sum(), war.past.size(), text.length()).get(what);
    }

    private long digest() {
        List<Long> all = new ArrayList<>();
        for (int what = 0; what <= 5; what++) {
            all.add((long) count(what));
        }
        for (int t = 0; t < war.things.size(); t++) {
            Thing v = war.things.get(t);
            all.addAll(List.of((long) v.size, (long) v.weight, (long) v.sound, (long) v.harm,
                (long) war.gifts.indexOf(war.with(t))));
        }
        for (Gift g : war.gifts) {
            all.addAll(List.of((long) g.kind, (long) g.city, (long) g.empty, (long) g.room, (long) g.told));
        }
        for (City c : war.cities) {
            for (int n : c.measures) {
                all.add((long) n);
            }
            for (int n : c.watch) {
                all.add((long) n);
            }
            all.add((long) c.lost);
        }
        all.add(above.longValueExact());
        all.add(below.longValueExact());
        long h = 863;
        for (long v : all) {
            h = 31 * h + v;
        }
        return h;
    }
}
