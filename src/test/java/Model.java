import java.math.BigInteger;
import java.util.ArrayDeque;
import java.util.ArrayList;
import java.util.Deque;
import java.util.HashSet;
import java.util.List;
import java.util.Set;
import java.util.regex.Matcher;
import java.util.regex.Pattern;

/**
 * The document told a second time, slowly and plainly, with the same calls as ThrownOver:
 * piles of goods, all ways to put them overboard one behind the other, big numbers, a pattern for tokens.
 */
final class Model {
    record Goods(int kind, int owner, int hold, int heavy, int worth, int told) { }

    record Seen(int h, int w, int d) { }

    /** All that an image keeps. */
    static final class State {
        int worth = 20;
        int carries = 60;
        List<Goods> goods = new ArrayList<>();
        Set<Integer> aboard = new HashSet<>();
        Deque<Set<Integer>> undo = new ArrayDeque<>();
        List<Seen> seen = new ArrayList<>();

        State copy() {
            State s = new State();
            s.worth = worth;
            s.carries = carries;
            s.goods = new ArrayList<>(goods);
            s.aboard = new HashSet<>(aboard);
            s.undo = new ArrayDeque<>();
            for (Set<Integer> u : undo) {
                s.undo.addLast(new HashSet<>(u));
            }
            s.seen = new ArrayList<>(seen);
            return s;
        }

        /** What lies in each hold, the top last. */
        List<List<Integer>> piles(Set<Integer> there) {
            List<List<Integer>> piles = List.of(new ArrayList<>(), new ArrayList<>(), new ArrayList<>());
            for (int k = 0; k < goods.size(); k++) {
                if (there.contains(k)) {
                    piles.get(goods.get(k).hold()).add(k);
                }
            }
            return piles;
        }

        boolean top(int k) {
            for (List<Integer> pile : piles(aboard)) {
                if (!pile.isEmpty() && pile.get(pile.size() - 1) == k) {
                    return true;
                }
            }
            return false;
        }

        int heavy(Iterable<Integer> set) {
            int sum = 0;
            for (int k : set) {
                sum += goods.get(k).heavy();
            }
            return sum;
        }

        int worthOf(Iterable<Integer> set) {
            int sum = 0;
            for (int k : set) {
                sum += goods.get(k).worth();
            }
            return sum;
        }

        boolean lives(int f) {
            return heavy(aboard) <= carries - f;
        }
    }

    private State s = new State();
    private final State[] images = new State[2];
    private final StringBuilder text = new StringBuilder();
    private BigInteger above = BigInteger.ZERO;
    private BigInteger below = BigInteger.ONE;
    private final int[] refused = new int[3];

    private int bad() {
        refused[0]++;
        return -2;
    }

    private int no() {
        refused[1]++;
        return -3;
    }

    private int full() {
        refused[2]++;
        return -4;
    }

    private static boolean in(int v, int a, int b) {
        return a <= v && v <= b;
    }

    private boolean has(int k) {
        return in(k, 0, s.goods.size() - 1);
    }

    private int fraction(BigInteger[] f) {
        BigInteger g = f[0].gcd(f[1]);
        above = f[0].divide(g);
        below = f[1].divide(g);
        return 1;
    }

    static int madeGood(int kind, int t) {
        return new int[] {t, 0, t, t * 3 / 4, 5, t * 3 / 4 / 2}[kind];
    }

    static int bears(int kind, int t) {
        return new int[] {t, t, t / 2, t, 0, t + 3}[kind];
    }

    int ship(int worth, int carries) {
        if (!in(worth, 0, 99) || !in(carries, 0, 200)) {
            return bad();
        }
        int were = s.goods.size();
        s = new State();
        s.worth = worth;
        s.carries = carries;
        return were;
    }

    int goods(int kind, int owner, int hold, int heavy, int worth, int told) {
        if (!in(kind, 0, 5) || !in(owner, 0, 3) || !in(hold, 0, 2) || !in(heavy, 1, 40)
                || !in(worth, 0, 60) || !in(told, 0, 60)) {
            return bad();
        }
        if (s.goods.size() == 8) {
            return full();
        }
        return load(s, new Goods(kind, owner, hold, heavy, worth, told));
    }

    private static int load(State s, Goods g) {
        s.goods.add(g);
        s.aboard.add(s.goods.size() - 1);
        s.undo.clear();
        return s.goods.size() - 1;
    }

    int tells(int k, int t) {
        if (!has(k) || !in(t, 0, 60)) {
            return bad();
        }
        Goods g = s.goods.get(k);
        s.goods.set(k, new Goods(g.kind(), g.owner(), g.hold(), g.heavy(), g.worth(), t));
        return g.told();
    }

    int type(int c) {
        if (!in(c, 0, 127)) {
            return bad();
        }
        if (text.length() == 150) {
            return full();
        }
        text.append((char) c);
        return text.length();
    }

    int clear() {
        int had = text.length();
        text.setLength(0);
        return had;
    }

    /** Tokens with their places; the end is an empty token at the text's length. */
    private static final Pattern TOKEN = Pattern.compile("[a-z]+|[0-9]+|[^ ]");

    int read() {
        List<String> tokens = new ArrayList<>();
        List<Integer> places = new ArrayList<>();
        Matcher m = Pattern.compile(TOKEN.pattern(), Pattern.DOTALL).matcher(text);
        while (m.find()) {
            tokens.add(m.group());
            places.add(m.start());
        }
        tokens.add("");
        places.add(text.length());
        State made = new State();
        int items = 0;
        int at = 0;
        while (items == 0 || !tokens.get(at).isEmpty()) {
            int taken = item(made, tokens.subList(at, tokens.size()), items == 0);
            if (taken <= 0) {
                return -10 - places.get(at - taken);
            }
            at += taken;
            items++;
        }
        made.undo.clear();
        s = made;
        return items;
    }

    /** How many tokens an item takes, or less how many stand ahead of the one at fault. */
    private static int item(State made, List<String> tokens, boolean first) {
        String word = tokens.get(0);
        int[][] limits;
        if (first && word.equals("ship")) {
            limits = new int[][] {{0, 99}, {0, 200}};
        } else if (!first && word.equals("goods") && made.goods.size() < 8) {
            limits = new int[][] {{0, 5}, {0, 3}, {0, 2}, {1, 40}, {0, 60}, {0, 60}};
        } else if (!first && word.equals("over")) {
            limits = new int[][] {{0, made.goods.size() - 1}};
        } else {
            return 0;
        }
        int[] n = new int[limits.length];
        for (int i = 0; i < n.length; i++) {
            String figures = tokens.get(i + 1);
            if (!figures.matches("[0-9]{1,3}")) {
                return -(i + 1);
            }
            n[i] = Integer.parseInt(figures);
            if (!in(n[i], limits[i][0], limits[i][1])) {
                return -(i + 1);
            }
        }
        if (n.length == 1 && !made.top(n[0])) {
            return -1;
        }
        if (!tokens.get(n.length + 1).equals(";")) {
            return -(n.length + 1);
        }
        if (n.length == 2) {
            made.worth = n[0];
            made.carries = n[1];
        } else if (n.length == 6) {
            load(made, new Goods(n[0], n[1], n[2], n[3], n[4], n[5]));
        } else {
            made.aboard.remove(n[0]);
        }
        return n.length + 2;
    }

    int over(int k) {
        if (!has(k)) {
            return bad();
        }
        if (!s.top(k)) {
            return no();
        }
        s.undo.addLast(new HashSet<>(s.aboard));
        s.aboard.remove(k);
        return madeGood(s.goods.get(k).kind(), s.goods.get(k).told());
    }

    int undo() {
        if (s.undo.isEmpty()) {
            return no();
        }
        s.aboard = s.undo.removeLast();
        return s.aboard.size();
    }

    int of(int k, int what) {
        if (!has(k) || !in(what, 0, 7)) {
            return bad();
        }
        Goods g = s.goods.get(k);
        return new int[] {g.kind(), g.owner(), g.hold(), g.heavy(), g.worth(), g.told(),
            s.aboard.contains(k) ? 1 : 0, s.top(k) ? 1 : 0}[what];
    }

    int lives(int f) {
        return !in(f, 0, 200) ? bad() : s.lives(f) ? 1 : 0;
    }

    private int loss(List<Goods> goods, int owner) {
        int sum = 0;
        for (int k = 0; k < goods.size(); k++) {
            Goods g = goods.get(k);
            if (!s.aboard.contains(k) && (owner < 0 || g.owner() == owner)) {
                sum += madeGood(g.kind(), g.told());
            }
        }
        return sum;
    }

    private static int borne(List<Goods> goods, int owner) {
        int sum = 0;
        for (Goods g : goods) {
            if (owner < 0 || g.owner() == owner) {
                sum += bears(g.kind(), g.told());
            }
        }
        return sum;
    }

    int now(int what) {
        switch (what) {
            case 0: return loss(s.goods, -1);
            case 1: return borne(s.goods, -1) + s.worth;
            case 2: return s.heavy(s.aboard);
            case 3: return s.worthOf(s.aboard);
            default: return bad();
        }
    }

    private BigInteger[] shareOf(List<Goods> goods, int owner) {
        int whole = borne(goods, -1) + s.worth;
        int own = owner == 4 ? s.worth : borne(goods, owner);
        if (whole == 0) {
            return new BigInteger[] {BigInteger.ZERO, BigInteger.ONE};
        }
        return new BigInteger[] {BigInteger.valueOf(loss(goods, -1)).multiply(BigInteger.valueOf(own)),
            BigInteger.valueOf(whole)};
    }

    private BigInteger[] netOf(List<Goods> goods, int owner) {
        BigInteger[] share = shareOf(goods, owner);
        BigInteger back = BigInteger.valueOf(loss(goods, owner)).multiply(share[1]);
        return new BigInteger[] {share[0].subtract(back), share[1]};
    }

    int share(int owner) {
        return in(owner, 0, 4) ? fraction(shareOf(s.goods, owner)) : bad();
    }

    int net(int owner) {
        return in(owner, 0, 3) ? fraction(netOf(s.goods, owner)) : bad();
    }

    /** All sets that can go one behind the other from these piles, as bits. */
    private static void ways(List<List<Integer>> piles, int gone, Set<Integer> found) {
        if (!found.add(gone)) {
            return;
        }
        for (int h = 0; h < 3; h++) {
            List<Integer> pile = piles.get(h);
            if (!pile.isEmpty()) {
                int k = pile.remove(pile.size() - 1);
                ways(piles, gone | 1 << k, found);
                pile.add(k);
            }
        }
    }

    private static List<Integer> members(int bits) {
        List<Integer> members = new ArrayList<>();
        for (int k = 0; k < 8; k++) {
            if ((bits & 1 << k) != 0) {
                members.add(k);
            }
        }
        return members;
    }

    /** Least as bits, or -1. */
    private int leastOf(List<List<Integer>> piles, int f) {
        Set<Integer> found = new HashSet<>();
        ways(piles, 0, found);
        int heavy = 0;
        for (List<Integer> pile : piles) {
            heavy += s.heavy(pile);
        }
        int best = -1;
        for (int bits = 0; bits < 256; bits++) {
            if (!found.contains(bits) || heavy - s.heavy(members(bits)) > s.carries - f) {
                continue;
            }
            if (best < 0 || s.worthOf(members(bits)) < s.worthOf(members(best))
                    || s.worthOf(members(bits)) == s.worthOf(members(best))
                    && members(bits).size() < members(best).size()) {
                best = bits;
            }
        }
        return best;
    }

    int least(int f, int i) {
        if (!in(f, 0, 200) || i < -2) {
            bad();
            return -10;
        }
        int bits = leastOf(s.piles(s.aboard), f);
        if (bits < 0) {
            return -1;
        }
        if (i < 0) {
            return i == -2 ? bits : s.worthOf(members(bits));
        }
        List<Integer> order = order(members(bits));
        return i < order.size() ? order.get(i) : -5;
    }

    private List<Integer> order(List<Integer> members) {
        List<List<Integer>> piles = s.piles(s.aboard);
        List<Integer> order = new ArrayList<>();
        while (order.size() < members.size()) {
            int next = 99;
            for (List<Integer> pile : piles) {
                if (!pile.isEmpty() && members.contains(pile.get(pile.size() - 1))) {
                    next = Math.min(next, pile.get(pile.size() - 1));
                }
            }
            for (List<Integer> pile : piles) {
                pile.remove(Integer.valueOf(next));
            }
            order.add(next);
        }
        return order;
    }

    int needful(int f) {
        if (!in(f, 0, 200)) {
            return bad();
        }
        int bits = 0;
        for (int k = 0; k < s.goods.size(); k++) {
            if (!s.aboard.contains(k)) {
                State still = s.copy();
                still.aboard.add(k);
                bits |= still.lives(f) ? 0 : 1 << k;
            }
        }
        return bits;
    }

    int stow(int k, int f) {
        if (!has(k) || !in(f, 0, 200)) {
            return bad();
        }
        if (!s.aboard.contains(k)) {
            return no();
        }
        for (int place = 0; place < 4; place++) {
            List<List<Integer>> piles = s.piles(s.aboard);
            if (place < 3) {
                piles.get(s.goods.get(k).hold()).remove(Integer.valueOf(k));
                piles.get(place).add(k);
            }
            int bits = leastOf(piles, f);
            if (bits >= 0 && (bits & 1 << k) == 0) {
                return place;
            }
        }
        return -1;
    }

    private BigInteger[] markedNet(int k, int t) {
        Goods g = s.goods.get(k);
        List<Goods> as = new ArrayList<>(s.goods);
        as.set(k, new Goods(g.kind(), g.owner(), g.hold(), g.heavy(), g.worth(), t));
        return netOf(as, g.owner());
    }

    int tell(int k) {
        if (!has(k)) {
            return bad();
        }
        int best = 0;
        for (int t = 1; t <= 60; t++) {
            BigInteger[] a = markedNet(k, t);
            BigInteger[] b = markedNet(k, best);
            if (a[0].multiply(b[1]).compareTo(b[0].multiply(a[1])) < 0) {
                best = t;
            }
        }
        return best;
    }

    int marked(int k, int t) {
        return has(k) && in(t, 0, 60) ? fraction(markedNet(k, t)) : bad();
    }

    int seen(int h, int w, int d) {
        if (!in(h, 1, 40) || !in(w, 0, 60) || !in(d, 0, 3)) {
            return bad();
        }
        if (s.seen.size() == 6) {
            return full();
        }
        s.seen.add(new Seen(h, w, d));
        return s.seen.size();
    }

    int forget() {
        int were = s.seen.size();
        s.seen.clear();
        return were;
    }

    int barrel() {
        int bits = 0;
        for (int k = 0; k < s.goods.size(); k++) {
            Goods g = s.goods.get(k);
            boolean fits = !s.aboard.contains(k);
            for (Seen n : s.seen) {
                fits &= g.heavy() >= n.h() && g.worth() <= n.w() && (n.d() == 3 || n.d() == g.hold());
            }
            bits |= fits ? 1 << k : 0;
        }
        return bits;
    }

    int whose() {
        int owners = 0;
        for (int k : members(barrel())) {
            owners |= 1 << s.goods.get(k).owner();
        }
        return owners;
    }

    int asks() {
        List<Integer> maybe = members(barrel());
        int best = -1;
        int bestPart = 99;
        for (int q = 0; q < 9 && !maybe.isEmpty(); q++) {
            int[] parts = new int[2];
            for (int k : maybe) {
                boolean yes = q < 3 ? s.goods.get(k).hold() == q : s.goods.get(k).kind() == q - 3;
                parts[yes ? 1 : 0]++;
            }
            if (Math.max(parts[0], parts[1]) < bestPart) {
                best = q;
                bestPart = Math.max(parts[0], parts[1]);
            }
        }
        return best;
    }

    int odds(int f) {
        if (!in(f, 0, 191)) {
            return bad();
        }
        int good = 0;
        for (int storm = f; storm <= f + 9; storm++) {
            good += s.lives(storm) ? 1 : 0;
        }
        return fraction(new BigInteger[] {BigInteger.valueOf(good), BigInteger.TEN});
    }

    int safe() {
        int best = -1;
        for (int f = 0; f <= 200; f++) {
            best = s.lives(f) ? f : best;
        }
        return best;
    }

    int voyages(int seed, int n) {
        if (!in(seed, 0, 999999) || !in(n, 0, 30)) {
            return bad();
        }
        BigInteger x = BigInteger.valueOf(seed);
        Set<Integer> left = new HashSet<>(s.aboard);
        for (int i = 0; i < n; i++) {
            x = x.multiply(BigInteger.valueOf(1103515245)).add(BigInteger.valueOf(12345))
                .mod(BigInteger.ONE.shiftLeft(31));
            int storm = x.shiftRight(16).mod(BigInteger.valueOf(61)).intValue();
            int bits = leastOf(s.piles(left), storm);
            if (bits < 0) {
                return 0;
            }
            left.removeAll(members(bits));
        }
        return s.worthOf(left);
    }

    long part(int what) {
        return what == 0 ? above.longValueExact() : what == 1 ? below.longValueExact() : bad();
    }

    int image(int i) {
        if (!in(i, 0, 1)) {
            return bad();
        }
        images[i] = s.copy();
        return 1;
    }

    int from(int i) {
        if (!in(i, 0, 1)) {
            return bad();
        }
        if (images[i] == null) {
            return no();
        }
        s = images[i].copy();
        return 1;
    }

    int status(int what) {
        if (!in(what, 0, 2)) {
            bad();
            return -1;
        }
        return refused[what];
    }

    int count(int what) {
        if (!in(what, 0, 6)) {
            return bad();
        }
        return new int[] {s.goods.size(), s.aboard.size(), s.worth, s.carries, s.seen.size(), s.undo.size(),
            text.length()}[what];
    }

    long digest() {
        List<Long> values = new ArrayList<>();
        for (int what = 0; what < 7; what++) {
            values.add((long) count(what));
        }
        for (int k = 0; k < s.goods.size(); k++) {
            for (int what = 0; what < 7; what++) {
                values.add((long) of(k, what));
            }
        }
        for (Seen n : s.seen) {
            values.addAll(List.of((long) n.h(), (long) n.w(), (long) n.d()));
        }
        values.addAll(List.of(above.longValueExact(), below.longValueExact()));
        long h = 1117;
        for (long v : values) {
            h = 31 * h + v;
        }
        return h;
    }
}
