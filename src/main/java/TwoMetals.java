import java.util.Arrays;

/**
 * Realms that mint gold and silver at a ratio of law, beside one market whose ratio hangs on what lies there.
 * The document ../shared/DOC.md says what each call answers; README.md says how to use the class.
 */
public final class TwoMetals {
    public static final int BAD = -1, NO = -2, FULL = -3, NONE = -4, SPENT = -5;

    private static final int REALMS = 8;
    private static final int THOUSAND = 1000;
    private static final int RATIO_MOST = 1000000;
    private static final int LAW_LEAST = 1000;
    private static final int LAW_MOST = 99999;
    private static final int YEARS_MOST = 100;
    private static final int DEBT_MOST = 100000000;
    private static final int REST_MOST = 200000;
    private static final int KEPT_MOST = 2;
    // 0 and the powers of two from 1 to 2^30: above what 512 years of mines can heap up
    private static final int CORNER_STEPS_MOST = 32;
    private static final int OUT = 1;
    private static final int IN = 2;

    private final Text text = new Text();
    private final Reader reader = new Reader();
    private final Mover mover = new Mover();
    private final Mines mines = new Mines();
    private final World now = new World();
    private final World trial = new World();
    private final World[] kept = new World[KEPT_MOST];
    private int keptCount = 0;

    public TwoMetals() {
        for (int i = 0; i < KEPT_MOST; i++) {
            kept[i] = new World();
        }
    }

    // ---- worlds

    public int write(int n, long v) {
        if (n < 1 || n > Text.WRITE_MOST) {
            return BAD;
        }
        if (!text.hasRoomFor(n)) {
            return FULL;
        }
        text.append(n, v);
        return text.length;
    }

    public int wipe() {
        int was = text.length;
        text.length = 0;
        return was;
    }

    public int fault() {
        return reader.firstFault(text);
    }

    public int lay() {
        if (reader.firstFault(text) != NONE) {
            return NO;
        }
        now.copyFrom(reader.world);
        mines.copyFrom(reader.mines);
        keptCount = 0;
        return Integer.bitCount(now.told);
    }

    public long realm(int n, int what) {
        if (!now.has(n)) {
            return BAD;
        }
        switch (what) {
            case 0: return now.law[n];
            case 1: return now.cut[n];
            case 2: return now.way[n];
            case 3: return now.gold[n];
            case 4: return now.silver[n];
            case 5: return now.yearly[n];
            case 6: return now.mints(n) ? 1 : 0;
            case 7: return now.limps(n) ? 1 : 0;
            default: return BAD;
        }
    }

    public long market(int what) {
        switch (what) {
            case 0: return now.marketGold;
            case 1: return now.marketSilver;
            case 2: return now.price;
            case 3: return now.age;
            default: return BAD;
        }
    }

    public int moves(int n) {
        return now.has(n) ? now.heading(n) : BAD;
    }

    public int ends(int n, int what) {
        if (!now.has(n) || !isZeroOrOne(what)) {
            return BAD;
        }
        return what == 0 ? now.low[n] : now.high[n];
    }

    public int held() {
        return now.holders();
    }

    // ---- years

    public int year() {
        return mover.passYear(now, mines);
    }

    public int rest() {
        trial.copyFrom(now);
        int moved = mover.settle(trial);
        if (moved != SPENT) {
            now.copyFrom(trial);
        }
        return moved;
    }

    public int gone(int realm, int metal, int n) {
        if (!now.has(realm) || !isZeroOrOne(metal) || !isSpanOfYears(n)) {
            return BAD;
        }
        trial.copyFrom(now);
        for (int i = 1; i <= n; i++) {
            mover.passYear(trial, mines);
            if (metal == 0 ? !trial.hasGold(realm) : !trial.hasSilver(realm)) {
                return i;
            }
        }
        return NONE;
    }

    public int stopped(int realm, int n) {
        if (!now.has(realm) || !isSpanOfYears(n)) {
            return BAD;
        }
        if (!now.mints(realm)) {
            return NO;
        }
        trial.copyFrom(now);
        for (int i = 1; i <= n; i++) {
            mover.passYear(trial, mines);
            if (!trial.mints(realm)) {
                return i;
            }
        }
        return NONE;
    }

    public int free(int n) {
        if (!isSpanOfYears(n)) {
            return BAD;
        }
        trial.copyFrom(now);
        for (int i = 1; i <= n; i++) {
            mover.passYear(trial, mines);
            if (trial.holders() == 0) {
                return i;
            }
        }
        return NONE;
    }

    public int ahead(int n) {
        if (!isSpanOfYears(n)) {
            return BAD;
        }
        trial.copyFrom(now);
        for (int i = 1; i <= n; i++) {
            mover.passYear(trial, mines);
        }
        return trial.price;
    }

    // ---- debts, pacts, houses

    public int debt(int realm, int d, int what) {
        if (!now.has(realm) || d < 1 || d > DEBT_MOST || !isZeroOrOne(what)) {
            return BAD;
        }
        if (!now.mints(realm)) {
            return NO;
        }
        boolean paysGold = now.price < now.law[realm];
        if (what == 1) {
            return paysGold ? 1 : 0;
        }
        return paysGold ? (int) ((long) d * now.price / Math.max(1, now.law[realm])) : d;
    }

    public int pact(int set, int r, int what) {
        boolean isSetOfMints = set != 0 && (set & ~now.minting) == 0;
        if (!isSetOfMints || !isLaw(r) || !isZeroOrOne(what)) {
            return BAD;
        }
        if (tryPact(set, r) == SPENT) {
            return SPENT;
        }
        if (what == 1) {
            return trial.price;
        }
        return allHold(set) ? 1 : 0;
    }

    public int fewest(int r) {
        if (!isLaw(r)) {
            return BAD;
        }
        for (int size = 1; size <= REALMS; size++) {
            for (int set = 1; set < 1 << REALMS; set++) {
                boolean isCandidate = Integer.bitCount(set) == size && (set & ~now.minting) == 0;
                if (isCandidate && tryPact(set, r) != SPENT && allHold(set)) {
                    return set;
                }
            }
        }
        return NONE;
    }

    public int bought(int n, int realm) {
        if (n < 0 || n > now.marketGold || (realm != -1 && !now.has(realm))) {
            return BAD;
        }
        if (tryPurchase(n) == SPENT) {
            return SPENT;
        }
        return realm == -1 ? trial.price : (int) trial.gold[realm];
    }

    public int corner(int realm) {
        if (!now.has(realm)) {
            return BAD;
        }
        if (!now.mints(realm)) {
            return NO;
        }
        int all = (int) now.marketGold;
        for (int step = 0; step < CORNER_STEPS_MOST; step++) {
            // a step that would pass what there is buys all of it, and is the last
            int due = step == 0 ? 0 : 1 << (step - 1);
            int n = Math.min(due, all);
            if (tryPurchase(n) != SPENT && !trial.hasGold(realm)) {
                return n;
            }
            if (n == all) {
                return NONE;
            }
        }
        return NONE;
    }

    public int move(int realm, int r) {
        if (!now.has(realm) || !isLaw(r)) {
            return BAD;
        }
        int was = now.law[realm];
        now.setLaw(realm, r);
        return was;
    }

    public int melted() {
        int bits = 0;
        for (int n = 0; n < REALMS; n++) {
            if (now.has(n) && now.price > now.law[n]) {
                bits |= 1 << n;
            }
        }
        return bits;
    }

    public int keep() {
        if (keptCount >= KEPT_MOST) {
            return FULL;
        }
        kept[keptCount].copyFrom(now);
        keptCount++;
        return keptCount;
    }

    public int back() {
        if (keptCount <= 0) {
            return NO;
        }
        keptCount--;
        now.copyFrom(kept[keptCount]);
        return keptCount;
    }

    public int count(int what) {
        switch (what) {
            case 0: return Integer.bitCount(now.told);
            case 1: return text.length;
            case 2: return Integer.bitCount(now.minting);
            case 3: return (int) now.goldInAll();
            case 4: return keptCount;
            default: return BAD;
        }
    }

    private int tryPact(int set, int r) {
        trial.copyFrom(now);
        for (int n = 0; n < REALMS; n++) {
            if ((set >> n & 1) == 1) {
                trial.setLaw(n, r);
            }
        }
        return mover.settle(trial);
    }

    private boolean allHold(int set) {
        return (set & ~trial.holders()) == 0;
    }

    private int tryPurchase(int n) {
        trial.copyFrom(now);
        trial.marketGold -= n;
        trial.weigh();
        return mover.settle(trial);
    }

    private static boolean isZeroOrOne(int what) {
        return what == 0 || what == 1;
    }

    private static boolean isSpanOfYears(int n) {
        return n >= 1 && n <= YEARS_MOST;
    }

    private static boolean isLaw(int r) {
        return r >= LAW_LEAST && r <= LAW_MOST;
    }

    /** The bytes that have been written. */
    private static final class Text {
        private static final int MOST = 400;
        private static final int WRITE_MOST = 8;
        private static final int BITS_OF_A_BYTE = 8;

        final byte[] bytes = new byte[MOST];
        int length = 0;

        boolean hasRoomFor(int n) {
            return length + n <= MOST;
        }

        void append(int n, long v) {
            for (int i = n - 1; i >= 0 && length < MOST; i--) {
                bytes[length] = (byte) (v >> (i * BITS_OF_A_BYTE));
                length++;
            }
        }
    }

    /** Realms, market and year: all that time changes, so that one copy keeps a whole world. */
    private static final class World {
        final int[] law = new int[REALMS];
        final int[] cut = new int[REALMS];
        final int[] way = new int[REALMS];
        final int[] yearly = new int[REALMS];
        // -1 where a realm never stops: no realm has so little gold
        final int[] stopAt = new int[REALMS];
        // the ends hang on law, cut and way alone, so they are worked out once for many rounds
        final int[] low = new int[REALMS];
        final int[] high = new int[REALMS];
        final long[] gold = new long[REALMS];
        final long[] silver = new long[REALMS];
        int told = 0;
        int minting = 0;
        int limping = 0;
        long marketGold = 0;
        long marketSilver = 0;
        int scarcity = THOUSAND;
        // the market's ratio, kept beside what it hangs on, since each round asks for it eight times
        int price = RATIO_MOST;
        int age = 0;

        void clear() {
            told = 0;
            minting = 0;
            limping = 0;
            marketGold = 0;
            marketSilver = 0;
            scarcity = THOUSAND;
            price = RATIO_MOST;
            age = 0;
        }

        void copyFrom(World other) {
            System.arraycopy(other.law, 0, law, 0, REALMS);
            System.arraycopy(other.cut, 0, cut, 0, REALMS);
            System.arraycopy(other.way, 0, way, 0, REALMS);
            System.arraycopy(other.yearly, 0, yearly, 0, REALMS);
            System.arraycopy(other.stopAt, 0, stopAt, 0, REALMS);
            System.arraycopy(other.low, 0, low, 0, REALMS);
            System.arraycopy(other.high, 0, high, 0, REALMS);
            System.arraycopy(other.gold, 0, gold, 0, REALMS);
            System.arraycopy(other.silver, 0, silver, 0, REALMS);
            told = other.told;
            minting = other.minting;
            limping = other.limping;
            marketGold = other.marketGold;
            marketSilver = other.marketSilver;
            scarcity = other.scarcity;
            price = other.price;
            age = other.age;
        }

        boolean has(int n) {
            return n >= 0 && n < REALMS && (told >> n & 1) == 1;
        }

        boolean mints(int n) {
            return (minting >> n & 1) == 1;
        }

        boolean limps(int n) {
            return (limping >> n & 1) == 1;
        }

        boolean hasGold(int n) {
            return gold[n] > 0;
        }

        boolean hasSilver(int n) {
            return silver[n] >= law[n];
        }

        void setLaw(int n, int r) {
            law[n] = r;
            int dear = THOUSAND + way[n];
            long least = (long) THOUSAND * Math.max(0, r - cut[n]);
            low[n] = (int) ((least + dear - 1) / Math.max(1, dear));
            long most = (long) THOUSAND * (r + cut[n]) / Math.max(1, THOUSAND - way[n]);
            high[n] = (int) Math.min(most, RATIO_MOST);
        }

        /** To be called whenever the market's metals or the scarcity have changed. */
        void weigh() {
            if (marketGold <= 0) {
                price = RATIO_MOST;
                return;
            }
            price = (int) Math.min(scarcity * marketSilver / (THOUSAND * marketGold), RATIO_MOST);
        }

        int heading(int n) {
            if (!mints(n)) {
                return 0;
            }
            if (price > high[n]) {
                boolean goes = !limps(n) && hasGold(n) && marketSilver >= law[n];
                return goes ? OUT : 0;
            }
            if (price < low[n]) {
                boolean comes = marketGold > 0 && hasSilver(n);
                return comes ? IN : 0;
            }
            return 0;
        }

        void carry(int n, int heading) {
            int sacks = heading == OUT ? 1 : -1;
            gold[n] -= sacks;
            marketGold += sacks;
            silver[n] += sacks * law[n];
            marketSilver -= sacks * law[n];
            weigh();
        }

        int holders() {
            int bits = 0;
            for (int n = 0; n < REALMS; n++) {
                boolean isWithin = price >= low[n] && price <= high[n];
                if (mints(n) && isWithin && hasGold(n) && hasSilver(n)) {
                    bits |= 1 << n;
                }
            }
            return bits;
        }

        void stopThoseThatRanLow() {
            for (int n = 0; n < REALMS; n++) {
                if (mints(n) && gold[n] <= stopAt[n]) {
                    minting &= ~(1 << n);
                }
            }
        }

        long goldInAll() {
            long sum = marketGold;
            for (int n = 0; n < REALMS; n++) {
                sum += has(n) ? gold[n] : 0;
            }
            return sum;
        }
    }

    /** What the mines bring in each year; the last row stands for every later year too. */
    private static final class Mines {
        private static final int ROWS = 100;

        final int[] told = new int[ROWS];
        final int[] gold = new int[ROWS];
        final int[] silver = new int[ROWS];

        void clear() {
            Arrays.fill(told, 0);
            Arrays.fill(gold, 0);
            Arrays.fill(silver, 0);
        }

        void copyFrom(Mines other) {
            System.arraycopy(other.told, 0, told, 0, ROWS);
            System.arraycopy(other.gold, 0, gold, 0, ROWS);
            System.arraycopy(other.silver, 0, silver, 0, ROWS);
        }

        void tell(int from, int sacksOfGold, int sacksOfSilver) {
            told[from] = 1;
            gold[from] = sacksOfGold;
            silver[from] = sacksOfSilver;
        }

        /** Years without a word of their own go on as the year ahead of them. */
        void fillGaps() {
            for (int i = 1; i < ROWS; i++) {
                if (told[i] == 0) {
                    gold[i] = gold[i - 1];
                    silver[i] = silver[i - 1];
                }
            }
        }

        void bringTo(World world) {
            int row = Math.max(0, Math.min(world.age, ROWS - 1));
            world.marketGold += gold[row];
            world.marketSilver += (long) THOUSAND * silver[row];
            world.weigh();
        }
    }

    /** Moves sacks round by round. */
    private static final class Mover {
        private static final int YEARLY_MOST = 999;
        private static final int YEAR_ROUNDS_MOST = REALMS * YEARLY_MOST + 1;

        final int[] left = new int[REALMS];
        final long[] marked = new long[REALMS];

        int passYear(World world, Mines mines) {
            mines.bringTo(world);
            System.arraycopy(world.yearly, 0, left, 0, REALMS);
            int moved = 0;
            for (int i = 0; i < YEAR_ROUNDS_MOST; i++) {
                int sacks = goRound(world);
                if (sacks == 0) {
                    break;
                }
                moved += sacks;
            }
            world.stopThoseThatRanLow();
            world.age++;
            return moved;
        }

        /**
         * Answers SPENT as soon as a round begins as an earlier one did: then it never ends. The earlier one
         * is marked anew at 1, 2, 4, .. rounds, so that a circle of any length is met.
         */
        int settle(World world) {
            // a realm moves one sack a round at most, so this hinders none
            Arrays.fill(left, REST_MOST + 1);
            mark(world);
            int moved = 0;
            for (int i = 1; i <= REST_MOST + 1; i++) {
                int sacks = goRound(world);
                if (sacks == 0) {
                    return moved;
                }
                moved += sacks;
                if (moved > REST_MOST || isMarked(world)) {
                    return SPENT;
                }
                if (Integer.bitCount(i) == 1) {
                    mark(world);
                }
            }
            return SPENT;
        }

        private int goRound(World world) {
            int sacks = 0;
            for (int n = 0; n < REALMS; n++) {
                int heading = left[n] > 0 ? world.heading(n) : 0;
                if (heading != 0) {
                    world.carry(n, heading);
                    left[n]--;
                    sacks++;
                }
            }
            return sacks;
        }

        // the realms' gold tells all: while laws stand, what else there is follows from it
        private void mark(World world) {
            System.arraycopy(world.gold, 0, marked, 0, REALMS);
        }

        private boolean isMarked(World world) {
            for (int n = 0; n < REALMS; n++) {
                if (marked[n] != world.gold[n]) {
                    return false;
                }
            }
            return true;
        }
    }

    /** Reads a text, item by item, into a world and mines of its own. */
    private static final class Reader {
        private static final int NUMBERS_MOST = 7;
        private static final int FIGURES_MOST = 5;

        final World world = new World();
        final Mines mines = new Mines();
        private final int[] number = new int[NUMBERS_MOST];
        private int at = 0;

        /** Answers NONE if there is no fault; only then world and mines are as the text says. */
        int firstFault(Text text) {
            world.clear();
            mines.clear();
            at = 0;
            // an item takes a byte at least, so there are no more of them than bytes
            for (int i = 0; i < Text.MOST && at < text.length; i++) {
                int start = at;
                if (!readItem(text)) {
                    return start;
                }
            }
            mines.fillGaps();
            world.weigh();
            return NONE;
        }

        private boolean readItem(Text text) {
            int letter = text.bytes[at];
            at++;
            int due = numbersBehind(letter);
            return due > 0 && readNumbers(text, due) && takeItem(letter);
        }

        private static int numbersBehind(int letter) {
            switch (letter) {
                case 'r': return 7;
                case 'l': return 1;
                case 's': return 2;
                case 'm': return 2;
                case 'k': return 1;
                case 'g': return 3;
                default: return 0;
            }
        }

        private boolean readNumbers(Text text, int due) {
            for (int i = 0; i < due && i < NUMBERS_MOST; i++) {
                int behind = i + 1 < due ? ',' : ';';
                if (!readNumber(text, i) || !readSign(text, behind)) {
                    return false;
                }
            }
            return true;
        }

        private boolean readNumber(Text text, int i) {
            int figures = 0;
            int value = 0;
            while (figures < FIGURES_MOST && at < text.length && isFigure(text.bytes[at])) {
                value = value * 10 + (text.bytes[at] - '0');
                at++;
                figures++;
            }
            number[i] = value;
            return figures > 0;
        }

        private boolean readSign(Text text, int sign) {
            if (at >= text.length || text.bytes[at] != sign) {
                return false;
            }
            at++;
            return true;
        }

        private static boolean isFigure(int sign) {
            return sign >= '0' && sign <= '9';
        }

        private boolean takeItem(int letter) {
            switch (letter) {
                case 'r': return takeRealm();
                case 'l': return takeLimp();
                case 's': return takeStop();
                case 'm': return takeMarket();
                case 'k': return takeScarcity();
                case 'g': return takeMines();
                default: return false;
            }
        }

        private boolean isWithin(int i, int least, int most) {
            return number[i] >= least && number[i] <= most;
        }

        private boolean takeRealm() {
            boolean isNew = isWithin(0, 0, REALMS - 1) && !world.has(number[0]);
            boolean isLawful = isWithin(1, LAW_LEAST, LAW_MOST) && isWithin(2, 0, 999) && isWithin(3, 0, 200);
            boolean isStocked = isWithin(4, 0, 9999) && isWithin(5, 0, 9999) && isWithin(6, 0, Mover.YEARLY_MOST);
            if (!isNew || !isLawful || !isStocked) {
                return false;
            }
            int n = number[0];
            world.told |= 1 << n;
            world.minting |= 1 << n;
            world.cut[n] = number[2];
            world.way[n] = number[3];
            world.setLaw(n, number[1]);
            world.gold[n] = number[4];
            world.silver[n] = (long) THOUSAND * number[5];
            world.yearly[n] = number[6];
            world.stopAt[n] = -1;
            return true;
        }

        private boolean takeLimp() {
            if (!world.has(number[0])) {
                return false;
            }
            world.limping |= 1 << number[0];
            return true;
        }

        private boolean takeStop() {
            if (!world.has(number[0]) || !isWithin(1, 0, 9999)) {
                return false;
            }
            world.stopAt[number[0]] = number[1];
            return true;
        }

        private boolean takeMarket() {
            world.marketGold = number[0];
            world.marketSilver = (long) THOUSAND * number[1];
            return true;
        }

        private boolean takeScarcity() {
            if (!isWithin(0, 1, 9999)) {
                return false;
            }
            world.scarcity = number[0];
            return true;
        }

        private boolean takeMines() {
            if (!isWithin(0, 0, Mines.ROWS - 1) || !isWithin(1, 0, 9999) || !isWithin(2, 0, 9999)) {
                return false;
            }
            mines.tell(number[0], number[1], number[2]);
            return true;
        }
    }
}
