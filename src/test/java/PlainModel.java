import java.util.ArrayList;
import java.util.List;
import java.util.TreeMap;
import java.util.regex.Matcher;
import java.util.regex.Pattern;

/** The document's words once more, as plainly as can be and without a thought of speed, to be compared with the class. */
final class PlainModel {
    private static final Pattern ITEM = Pattern.compile("([rlsmkg])([0-9]{1,5}(?:,[0-9]{1,5})*);");

    static final class Realm {
        long r, c, w, gold, silver, f, stop = -1;
        boolean mints = true, limps;

        Realm copy() {
            Realm o = new Realm();
            o.r = r; o.c = c; o.w = w; o.gold = gold; o.silver = silver; o.f = f; o.stop = stop;
            o.mints = mints; o.limps = limps;
            return o;
        }
    }

    static final class State {
        final TreeMap<Integer, Realm> realms = new TreeMap<>();
        final List<int[]> mines = new ArrayList<>();
        long gold, silver, k = 1000, year;

        State copy() {
            State o = new State();
            realms.forEach((n, realm) -> o.realms.put(n, realm.copy()));
            o.mines.addAll(mines);
            o.gold = gold; o.silver = silver; o.k = k; o.year = year;
            return o;
        }

        long ratio() {
            return gold == 0 ? 1000000 : Math.min(1000000, k * silver / (1000 * gold));
        }

        static boolean pullsOut(Realm a, long ratio) {
            return ratio * (1000 - a.w) > 1000 * (a.r + a.c);
        }

        static boolean pullsIn(Realm a, long ratio) {
            return ratio * (1000 + a.w) < 1000 * Math.max(0, a.r - a.c);
        }

        int moves(Realm a) {
            if (a.mints && !a.limps && a.gold > 0 && silver >= a.r && pullsOut(a, ratio())) {
                return 1;
            }
            return a.mints && gold > 0 && a.silver >= a.r && pullsIn(a, ratio()) ? 2 : 0;
        }

        boolean moveOne(Realm a) {
            int way = moves(a);
            if (way == 1) {
                a.gold--; gold++; a.silver += a.r; silver -= a.r;
            } else if (way == 2) {
                a.gold++; gold--; a.silver -= a.r; silver += a.r;
            }
            return way != 0;
        }

        int year() {
            int[] found = null;
            for (int[] mine : mines) {
                if (mine[0] <= year && (found == null || mine[0] >= found[0])) {
                    found = mine;
                }
            }
            if (found != null) {
                gold += found[1];
                silver += 1000L * found[2];
            }
            TreeMap<Integer, Integer> moved = new TreeMap<>();
            int sum = 0;
            for (boolean any = true; any;) {
                any = false;
                for (int n : realms.keySet()) {
                    int so = moved.getOrDefault(n, 0);
                    if (so < realms.get(n).f && moveOne(realms.get(n))) {
                        moved.put(n, so + 1);
                        sum++;
                        any = true;
                    }
                }
            }
            for (Realm a : realms.values()) {
                a.mints &= a.gold > a.stop;
            }
            year++;
            return sum;
        }

        int rest() {
            int sum = 0;
            for (boolean any = true; any;) {
                any = false;
                for (Realm a : realms.values()) {
                    if (moves(a) != 0 && sum == 200000) {
                        return Due.SPENT;
                    }
                    if (moveOne(a)) {
                        sum++;
                        any = true;
                    }
                }
            }
            return sum;
        }

        boolean holds(Realm a) {
            long ratio = ratio();
            return a.mints && !pullsIn(a, ratio) && !pullsOut(a, ratio) && a.gold >= 1 && a.silver >= a.r;
        }

        int held() {
            int bits = 0;
            for (int n : realms.keySet()) {
                bits |= holds(realms.get(n)) ? 1 << n : 0;
            }
            return bits;
        }
    }

    private final StringBuilder text = new StringBuilder();
    private State now = new State();
    private final List<State> kept = new ArrayList<>();

    private static boolean in(long v, long least, long most) {
        return v >= least && v <= most;
    }

    int write(int n, long v) {
        if (!in(n, 1, 8)) {
            return Due.BAD;
        }
        if (text.length() + n > 400) {
            return Due.FULL;
        }
        for (int i = n - 1; i >= 0; i--) {
            text.append((char) (v >>> 8 * i & 255));
        }
        return text.length();
    }

    int wipe() {
        int was = text.length();
        text.setLength(0);
        return was;
    }

    private int read(State into) {
        Matcher m = ITEM.matcher(text);
        int at = 0;
        while (at < text.length()) {
            m.region(at, text.length());
            if (!m.lookingAt()) {
                return at;
            }
            String[] parts = m.group(2).split(",");
            int[] v = new int[parts.length];
            for (int i = 0; i < v.length; i++) {
                v[i] = Integer.parseInt(parts[i]);
            }
            if (!take(into, m.group(1).charAt(0), v)) {
                return at;
            }
            at = m.end();
        }
        return Due.NONE;
    }

    private static boolean take(State s, char letter, int[] v) {
        if (letter == 'r') {
            boolean fine = v.length == 7 && in(v[0], 0, 7) && !s.realms.containsKey(v[0]) && in(v[1], 1000, 99999)
                && in(v[2], 0, 999) && in(v[3], 0, 200) && in(v[4], 0, 9999) && in(v[5], 0, 9999) && in(v[6], 0, 999);
            if (fine) {
                Realm a = new Realm();
                a.r = v[1]; a.c = v[2]; a.w = v[3]; a.gold = v[4]; a.silver = 1000L * v[5]; a.f = v[6];
                s.realms.put(v[0], a);
            }
            return fine;
        }
        if (letter == 'l') {
            boolean fine = v.length == 1 && s.realms.containsKey(v[0]);
            if (fine) {
                s.realms.get(v[0]).limps = true;
            }
            return fine;
        }
        if (letter == 's') {
            boolean fine = v.length == 2 && s.realms.containsKey(v[0]) && in(v[1], 0, 9999);
            if (fine) {
                s.realms.get(v[0]).stop = v[1];
            }
            return fine;
        }
        if (letter == 'm') {
            boolean fine = v.length == 2;
            if (fine) {
                s.gold = v[0];
                s.silver = 1000L * v[1];
            }
            return fine;
        }
        if (letter == 'k') {
            boolean fine = v.length == 1 && in(v[0], 1, 9999);
            if (fine) {
                s.k = v[0];
            }
            return fine;
        }
        boolean fine = v.length == 3 && in(v[0], 0, 99) && in(v[1], 0, 9999) && in(v[2], 0, 9999);
        if (fine) {
            s.mines.add(v);
        }
        return fine;
    }

    int fault() {
        return read(new State());
    }

    int lay() {
        State made = new State();
        if (read(made) != Due.NONE) {
            return Due.NO;
        }
        now = made;
        kept.clear();
        return now.realms.size();
    }

    long realm(int n, int what) {
        Realm a = now.realms.get(n);
        if (a == null || !in(what, 0, 7)) {
            return Due.BAD;
        }
        return new long[] {a.r, a.c, a.w, a.gold, a.silver, a.f, a.mints ? 1 : 0, a.limps ? 1 : 0}[what];
    }

    long market(int what) {
        return in(what, 0, 3) ? new long[] {now.gold, now.silver, now.ratio(), now.year}[what] : Due.BAD;
    }

    int moves(int n) {
        Realm a = now.realms.get(n);
        return a == null ? Due.BAD : now.moves(a);
    }

    int ends(int n, int what) {
        Realm a = now.realms.get(n);
        if (a == null || !in(what, 0, 1)) {
            return Due.BAD;
        }
        if (what == 0) {
            int least = 0;
            while (State.pullsIn(a, least)) {
                least++;
            }
            return least;
        }
        int greatest = 0;
        while (greatest < 1000000 && !State.pullsOut(a, greatest + 1)) {
            greatest++;
        }
        return greatest;
    }

    int held() {
        return now.held();
    }

    int year() {
        return now.year();
    }

    int rest() {
        State then = now.copy();
        int sum = then.rest();
        if (sum != Due.SPENT) {
            now = then;
        }
        return sum;
    }

    int gone(int realm, int metal, int n) {
        if (!now.realms.containsKey(realm) || !in(metal, 0, 1) || !in(n, 1, 100)) {
            return Due.BAD;
        }
        State then = now.copy();
        for (int i = 1; i <= n; i++) {
            then.year();
            Realm a = then.realms.get(realm);
            if (metal == 0 ? a.gold == 0 : a.silver < a.r) {
                return i;
            }
        }
        return Due.NONE;
    }

    int stopped(int realm, int n) {
        if (!now.realms.containsKey(realm) || !in(n, 1, 100)) {
            return Due.BAD;
        }
        if (!now.realms.get(realm).mints) {
            return Due.NO;
        }
        State then = now.copy();
        for (int i = 1; i <= n; i++) {
            then.year();
            if (!then.realms.get(realm).mints) {
                return i;
            }
        }
        return Due.NONE;
    }

    int free(int n) {
        if (!in(n, 1, 100)) {
            return Due.BAD;
        }
        State then = now.copy();
        for (int i = 1; i <= n; i++) {
            then.year();
            if (then.held() == 0) {
                return i;
            }
        }
        return Due.NONE;
    }

    int ahead(int n) {
        if (!in(n, 1, 100)) {
            return Due.BAD;
        }
        State then = now.copy();
        for (int i = 1; i <= n; i++) {
            then.year();
        }
        return (int) then.ratio();
    }

    int debt(int realm, int d, int what) {
        Realm a = now.realms.get(realm);
        if (a == null || !in(d, 1, 100000000) || !in(what, 0, 1)) {
            return Due.BAD;
        }
        if (!a.mints) {
            return Due.NO;
        }
        boolean gold = now.ratio() < a.r;
        return what == 1 ? (gold ? 1 : 0) : gold ? (int) (d * now.ratio() / a.r) : d;
    }

    int pact(int set, int r, int what) {
        if (set == 0 || !in(r, 1000, 99999) || !in(what, 0, 1)) {
            return Due.BAD;
        }
        State then = now.copy();
        List<Realm> members = new ArrayList<>();
        for (int n = 0; n < 32; n++) {
            if ((set >>> n & 1) == 1) {
                Realm a = then.realms.get(n);
                if (a == null || !a.mints) {
                    return Due.BAD;
                }
                a.r = r;
                members.add(a);
            }
        }
        if (then.rest() == Due.SPENT) {
            return Due.SPENT;
        }
        return what == 1 ? (int) then.ratio() : members.stream().allMatch(then::holds) ? 1 : 0;
    }

    int fewest(int r) {
        if (!in(r, 1000, 99999)) {
            return Due.BAD;
        }
        int best = Due.NONE;
        for (int set = 1; set < 256; set++) {
            boolean better = best == Due.NONE || Integer.bitCount(set) < Integer.bitCount(best);
            if (better && pact(set, r, 0) == 1) {
                best = set;
            }
        }
        return best;
    }

    int bought(int n, int realm) {
        if (!in(n, 0, now.gold) || realm != -1 && !now.realms.containsKey(realm)) {
            return Due.BAD;
        }
        State then = now.copy();
        then.gold -= n;
        if (then.rest() == Due.SPENT) {
            return Due.SPENT;
        }
        return (int) (realm == -1 ? then.ratio() : then.realms.get(realm).gold);
    }

    int corner(int realm) {
        Realm a = now.realms.get(realm);
        if (a == null) {
            return Due.BAD;
        }
        if (!a.mints) {
            return Due.NO;
        }
        List<Integer> tries = new ArrayList<>(List.of(0));
        for (int n = 1; n < now.gold; n *= 2) {
            tries.add(n);
        }
        tries.add((int) now.gold);
        for (int n : tries) {
            if (bought(n, realm) == 0) {
                return n;
            }
        }
        return Due.NONE;
    }

    int move(int realm, int r) {
        Realm a = now.realms.get(realm);
        if (a == null || !in(r, 1000, 99999)) {
            return Due.BAD;
        }
        int was = (int) a.r;
        a.r = r;
        return was;
    }

    int melted() {
        int bits = 0;
        for (int n : now.realms.keySet()) {
            bits |= now.ratio() > now.realms.get(n).r ? 1 << n : 0;
        }
        return bits;
    }

    int keep() {
        if (kept.size() == 2) {
            return Due.FULL;
        }
        kept.add(now.copy());
        return kept.size();
    }

    int back() {
        if (kept.isEmpty()) {
            return Due.NO;
        }
        now = kept.remove(kept.size() - 1);
        return kept.size();
    }

    int count(int what) {
        if (!in(what, 0, 4)) {
            return Due.BAD;
        }
        int minting = 0;
        long gold = now.gold;
        for (Realm a : now.realms.values()) {
            minting += a.mints ? 1 : 0;
            gold += a.gold;
        }
        return new int[] {now.realms.size(), text.length(), minting, (int) gold, kept.size()}[what];
    }
}
