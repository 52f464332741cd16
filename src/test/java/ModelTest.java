import java.nio.charset.StandardCharsets;
import java.util.Random;

/** Many runs of calls, made from fixed seeds, whose answers must be the plain model's. */
public final class ModelTest {
    private static final int RUNS = Integer.getInteger("runs", 600);
    private static final int FIRST = Integer.getInteger("first", 1);
    private static final int CALLS = 60;

    private final Due due = new Due("model");
    private final Random random;
    private final int seed;
    private final TwoMetals x = new TwoMetals();
    private final PlainModel model = new PlainModel();
    private final int base;

    private ModelTest(int seed) {
        this.seed = seed;
        random = new Random(seed * 7919L);
        base = pick(1000 + upTo(1500), 15500, 1000 + upTo(30000), 90000 + upTo(9999));
    }

    public static void main(String[] args) {
        for (int seed = FIRST; seed < FIRST + RUNS; seed++) {
            ModelTest test = new ModelTest(seed);
            test.layAText();
            for (int i = 0; i < CALLS; i++) {
                test.oneCall();
            }
            test.due.finish();
        }
    }

    private int upTo(int most) {
        return random.nextInt(most + 1);
    }

    private boolean oneIn(int n) {
        return random.nextInt(n) == 0;
    }

    private int pick(int... from) {
        return from[random.nextInt(from.length)];
    }

    /** Mostly a law near the others', so that there is something to gain, but not always. */
    private int someLaw() {
        int law = oneIn(3) ? base : base + upTo(base / 5) - base / 10;
        return oneIn(20) ? pick(999, 1000, 99999, 100000, 0, -1) : Math.max(1000, Math.min(99999, law));
    }

    private int someRealm() {
        return oneIn(15) ? pick(-1, 8, 7, 33, Integer.MIN_VALUE, Integer.MAX_VALUE) : upTo(4);
    }

    private int someSacks(int most) {
        return oneIn(6) ? 0 : oneIn(2) ? upTo(20) : oneIn(8) ? most : upTo(Math.min(most, 600));
    }

    private String someItem() {
        switch (random.nextInt(9)) {
            case 0: return "l" + upTo(4) + ";";
            case 1: return "s" + upTo(4) + "," + someSacks(9999) + ";";
            case 2: return "k" + pick(1, 9999, 1 + upTo(9998), 1000, 1000) + ";";
            case 3: return "g" + pick(0, 1, 2, upTo(99)) + "," + someSacks(9999) / pick(1, 10) + "," + someSacks(9999) + ";";
            default: return "r" + upTo(oneIn(5) ? 7 : 4) + "," + someLaw() + "," + pick(0, 0, upTo(100), upTo(999)) + ","
                + pick(0, 5, 20, upTo(200)) + "," + someSacks(9999) + "," + someSacks(9999) * pick(1, 15) % 10000 + ","
                + pick(0, 1, upTo(30), upTo(999)) + ";";
        }
    }

    private String someMarket() {
        int gold = oneIn(8) ? someSacks(99999) : 1 + upTo(pick(3, 20, 300, 3000));
        long silver = oneIn(8) ? someSacks(99999) : (long) gold * base * (80 + upTo(40)) / 100000;
        return "m" + gold + "," + Math.min(99999, silver) + ";";
    }

    private String someText() {
        StringBuilder text = new StringBuilder();
        int items = 1 + upTo(9);
        for (int i = 0; i < items; i++) {
            String item = i == items / 2 ? someMarket() : someItem();
            boolean fits = text.length() + item.length() <= 400;
            if (fits && (oneIn(30) || Due.faultOf(text + item) == Due.NONE)) {
                text.append(item);
            }
        }
        if (oneIn(6) && text.length() > 0) {
            text.setCharAt(upTo(text.length() - 1), (char) pick(',', ';', '0', '9', 'r', 'k', 'g', upTo(255)));
        }
        return text.toString();
    }

    private void same(String call, long got, long want) {
        due.is("seed " + seed + ", " + call, got, want);
    }

    private void layAText() {
        same("wipe", x.wipe(), model.wipe());
        String text = someText();
        byte[] bytes = text.getBytes(StandardCharsets.ISO_8859_1);
        for (int from = 0; from < bytes.length;) {
            int n = Math.min(1 + upTo(7), bytes.length - from);
            long v = random.nextLong();
            for (int i = 0; i < n; i++) {
                v = v << 8 | bytes[from + i] & 255;
            }
            same("write", x.write(n, v), model.write(n, v));
            from += n;
        }
        same("fault of " + text, x.fault(), model.fault());
        same("lay of " + text, x.lay(), model.lay());
        everything("lay of " + text);
    }

    private void everything(String behind) {
        for (int what = -1; what <= 4; what++) {
            same(behind + ": market " + what, x.market(what), model.market(what));
            same(behind + ": count " + what, x.count(what), model.count(what));
        }
        for (int n = 0; n < 8; n++) {
            for (int what = 0; what <= 7; what++) {
                same(behind + ": realm " + n + " " + what, x.realm(n, what), model.realm(n, what));
            }
            same(behind + ": moves " + n, x.moves(n), model.moves(n));
        }
        same(behind + ": held", x.held(), model.held());
        same(behind + ": melted", x.melted(), model.melted());
    }

    private void oneCall() {
        int a = someRealm();
        int n = oneIn(10) ? pick(0, 101, -1, 100, 1) : 1 + upTo(30);
        int what = oneIn(15) ? pick(-1, 2, 8) : upTo(1);
        int law = someLaw();
        switch (random.nextInt(17)) {
            case 0: same("ends", x.ends(a, what), model.ends(a, what)); break;
            case 1: case 2: same("year", x.year(), model.year()); break;
            case 3: same("rest", x.rest(), model.rest()); break;
            case 4: same("gone " + a + " " + what + " " + n, x.gone(a, what, n), model.gone(a, what, n)); break;
            case 5: same("stopped " + a + " " + n, x.stopped(a, n), model.stopped(a, n)); break;
            case 6: same("free " + n, x.free(n), model.free(n)); break;
            case 7: same("ahead " + n, x.ahead(n), model.ahead(n)); break;
            case 8: debts(a, what); break;
            case 9: pacts(law, what); break;
            case 10: if (oneIn(4)) { same("fewest " + law, x.fewest(law), model.fewest(law)); } break;
            case 11: houses(); break;
            case 12: if (oneIn(2)) { same("corner " + a, x.corner(a), model.corner(a)); } break;
            case 13: same("move " + a + " " + law, x.move(a, law), model.move(a, law)); break;
            case 14: same("keep", x.keep(), model.keep()); break;
            case 15: same("back", x.back(), model.back()); break;
            default: if (oneIn(5)) { layAText(); } break;
        }
        everything("then");
    }

    private void debts(int a, int what) {
        int d = oneIn(5) ? pick(0, 1, 100000000, 100000001, -1) : 1 + upTo(1000000);
        same("debt " + a + " " + d + " " + what, x.debt(a, d, what), model.debt(a, d, what));
    }

    private void pacts(int law, int what) {
        int set = oneIn(3) ? upTo(300) : upTo(31) & (int) mintingBits();
        set = oneIn(30) ? pick(-1, Integer.MIN_VALUE, 1 << 30) : set;
        same("pact " + set + " " + law + " " + what, x.pact(set, law, what), model.pact(set, law, what));
    }

    private long mintingBits() {
        long bits = 0;
        for (int n = 0; n < 8; n++) {
            bits |= x.realm(n, 6) == 1 ? 1 << n : 0;
        }
        return bits;
    }

    private void houses() {
        int a = someRealm();
        int all = (int) x.market(0);
        int n = oneIn(6) ? pick(-1, 0, all, all + 1, Integer.MAX_VALUE) : upTo(all);
        same("bought " + n + " " + a, x.bought(n, a), model.bought(n, a));
    }
}
