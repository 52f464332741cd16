/** The edges and refusals that the promises name, and what is said of all refusals, sentence by sentence. */
public final class PromiseSentencesTest {
    private static final int[] WHATS_FOR_NONE = {-1, -2, 256, 257, Integer.MIN_VALUE, Integer.MAX_VALUE};
    // a realm that has stopped, two that mint (one limps), a world that never rests
    private static final String WORLD = "r1,2000,0,0,5,100,0;s1,9;r3,2000,0,0,5,100,3;r6,2000,0,0,5,0,1;l6;m10,15;";
    private static final int[] NO_REALMS = {
        -1, 0, 2, 4, 5, 7, 8, 9, 11, 32, 33, 35, 38, 257, 259, -31, -29, Integer.MIN_VALUE, Integer.MIN_VALUE + 3, Integer.MAX_VALUE
    };

    private final Sentences doc = new Sentences("sentences of promises");

    public static void main(String[] args) {
        PromiseSentencesTest test = new PromiseSentencesTest();
        test.aNewObject();
        test.write();
        test.wipe();
        test.fault();
        test.lay();
        test.realmAndMarket();
        test.movesAndEnds();
        test.held();
        test.year();
        test.rest();
        test.goneAndStopped();
        test.freeAndAhead();
        test.debt();
        test.pactAndFewest();
        test.boughtAndCorner();
        test.moveAndMelted();
        test.keepAndBack();
        test.count();
        test.realmsThatAreNot();
        test.ofSeveralTheFirst();
        test.nothingChanges();
        test.lastOfItsCalls();
        test.doc.quotesAllPromises(26);
        test.doc.finish();
    }

    private static TwoMetals someWorld() {
        TwoMetals x = Due.laid(WORLD);
        x.year();
        return x;
    }

    private void aNewObject() {
        doc.promise(1, "An empty TEXT is LAID");
        TwoMetals x = new TwoMetals();
        String before = Sentences.stateOf(x);
        doc.is("realms", x.count(0), 0);
        doc.is("bytes", x.count(1), 0);
        doc.is("gold", x.count(3), 0);
        doc.is("year", x.market(3), 0);
        doc.is("no way back", x.back(), Due.NO);
        doc.is("lay", x.lay(), 0);
        doc.unchanged(x, before);
        doc.is("rest", x.rest(), 0);
        doc.is("held", x.held(), 0);
        doc.is("melted", x.melted(), 0);
        doc.is("ahead", x.ahead(100), 1000000);
        doc.is("bought", x.bought(0, -1), 1000000);
        doc.is("wipe", x.wipe(), 0);
        doc.unchanged(x, before);
        doc.is("keep", x.keep(), 1);
        doc.is("year", x.year(), 0);
    }

    private void write() {
        doc.promise(2, "n bytes (1 to 8) of v, the highest first, come behind THE TEXT: how long it is");
        byte[] bytes = "m12,345;".getBytes(java.nio.charset.StandardCharsets.ISO_8859_1);
        for (int n = 1; n <= 8; n++) {
            TwoMetals x = new TwoMetals();
            int length = 0;
            for (int from = 0; from < 8; from += n) {
                int size = Math.min(n, 8 - from);
                // the bytes above the lowest ones are not written, whatever they are
                long v = size % 2 == 0 ? -1L : 0x6b313b6b313b6b31L;
                for (int i = 0; i < size; i++) {
                    v = v << 8 | bytes[from + i];
                }
                length += size;
                doc.is(size + " bytes", x.write(size, v), length);
            }
            doc.is("in this order", x.lay(), 0);
            doc.is("gold", x.market(0), 12);
            doc.is("silver", x.market(1), 345000);
        }
        doc.promise(2, "BAD; FULL");
        int[] wrong = {0, 9, -1, -8, 16, 257, Integer.MIN_VALUE, Integer.MAX_VALUE};
        TwoMetals y = new TwoMetals();
        Due.write(y, "k1;");
        for (int n : wrong) {
            doc.bad("write of " + n, y.write(n, -1L));
        }
        doc.is("no byte came", y.count(1), 3);
        Due.write(y, "k1;".repeat(132));
        doc.is("full but for one", y.count(1), 399);
        doc.is("two", y.write(2, 0x6b31L), Due.FULL);
        doc.is("no byte came", y.count(1), 399);
        doc.is("no byte came", y.fault(), Due.NONE);
        doc.is("one", y.write(1, 'k'), 400);
        doc.is("another", y.write(1, 'k'), Due.FULL);
        doc.is("still", y.count(1), 400);
    }

    private void wipe() {
        doc.promise(3, "THE TEXT is empty: how long it was");
        TwoMetals x = new TwoMetals();
        doc.is("it was empty", x.wipe(), 0);
        doc.is("it was full", fullyWritten(x).wipe(), 400);
        doc.is("it is empty", x.count(1), 0);
        doc.is("it has no fault", x.fault(), Due.NONE);
        doc.is("it was empty", x.wipe(), 0);
        doc.is("there is room", x.write(8, 0), 8);
        String[] begun = {"k", "k5", "k55", "m", "m1", "m1,", "m1,2", "m1,22"};
        for (String text : begun) {
            x.wipe();
            Due.write(x, text.charAt(0) == 'k' ? "k55;" : "m1,22;");
            x.wipe();
            Due.write(x, text);
            doc.is("'" + text + "' where more was", x.fault(), 0);
        }
        TwoMetals y = someWorld();
        y.keep();
        long gold = y.realm(3, 3);
        y.wipe();
        doc.is("what is laid stays", y.realm(3, 3), gold);
        doc.is("the year stays", y.market(3), 1);
        doc.is("what is kept stays", y.back(), 0);
    }

    private static TwoMetals fullyWritten(TwoMetals x) {
        for (int i = 0; i < 50; i++) {
            x.write(8, -1L);
        }
        return x;
    }

    private void fault() {
        doc.promise(4, "FAULT. NONE");
        doc.is("an empty text", new TwoMetals().fault(), Due.NONE);
        doc.is("the first place", fullyWritten(new TwoMetals()).fault(), 0);
        TwoMetals x = Due.laid("k5;");
        x.keep();
        doc.is("none", x.fault(), Due.NONE);
        x.write(1, 'k');
        doc.is("the last place", x.fault(), 3);
        doc.is("what is kept stays", x.count(4), 1);
        doc.is("it asks alone", x.fault(), 3);
    }

    private void lay() {
        doc.promise(5, "LAID: how many REALMS; nothing is KEPT");
        StringBuilder text = new StringBuilder();
        for (int n = 0; n <= 8; n++) {
            TwoMetals x = new TwoMetals();
            Due.write(x, text.toString());
            x.keep();
            x.keep();
            doc.is(n + " realms", x.lay(), n);
            doc.is("nothing is kept", x.count(4), 0);
            doc.is("nothing is kept", x.back(), Due.NO);
            doc.is("the text stays", x.count(1), text.length());
            text.append("r").append(n).append(",1000,0,0,0,0,0;l").append(n).append(";");
        }
        doc.promise(5, "NO: a FAULT");
        TwoMetals y = Due.laid("m1,2;g0,3,4;");
        y.keep();
        y.year();
        y.wipe();
        Due.write(y, "m5,6;g0,7,8;k9;x");
        String before = Sentences.stateOf(y);
        doc.is("a fault at the end", y.lay(), Due.NO);
        doc.unchanged(y, before);
        y.year();
        doc.is("the mines stay", y.market(0), 7);
        doc.is("what is kept stays", y.back(), 0);
        doc.is("what is kept stays", y.market(0), 1);
    }

    private void realmAndMarket() {
        doc.promise(6, "1 if it mints (6), 1 if it LIMPS (7). BAD");
        TwoMetals x = someWorld();
        long[] stopped = {2000, 0, 0, 5, 100000, 0, 0, 0};
        long[] limping = {2000, 0, 0, 5, 0, 1, 1, 1};
        for (int what = 0; what < 8; what++) {
            doc.is("realm(1, " + what + ")", x.realm(1, what), stopped[what]);
            doc.is("realm(6, " + what + ")", x.realm(6, what), limping[what]);
        }
        doc.bad("realm(1, 8)", x.realm(1, 8));
        doc.promise(7, "the YEAR (3). BAD");
        doc.is("year", x.market(3), 1);
        doc.bad("market(4)", x.market(4));
        for (int what : WHATS_FOR_NONE) {
            doc.bad("realm(1, " + what + ")", x.realm(1, what));
            doc.bad("market(" + what + ")", x.market(what));
        }
    }

    private void movesAndEnds() {
        doc.promise(8, "What would move in a REALM now: 1 OUT, 2 IN, 0. BAD");
        TwoMetals x = Due.laid("r0,1000,0,0,1,0,0;r1,3000,0,0,0,3,0;r2,2000,0,0,5,5,5;m10,20;");
        doc.is("out", x.moves(0), 1);
        doc.is("in", x.moves(1), 2);
        doc.is("none", x.moves(2), 0);
        doc.bad("no such realm", x.moves(3));
        doc.promise(9, "ENDS: the least (what = 0), the greatest (1). BAD");
        doc.is("the least", x.ends(2, 0), 2000);
        doc.bad("what = 2", x.ends(2, 2));
        for (int what : WHATS_FOR_NONE) {
            doc.bad("what = " + what, x.ends(2, what));
        }
    }

    private void held() {
        doc.promise(10, "REALMS by which THE RATIO is HELD, as bits");
        StringBuilder text = new StringBuilder("m10,20;");
        int bits = 0;
        for (int n = 7; n >= 0; n--) {
            doc.is("bits", Due.laid(text.toString()).held(), bits);
            text.append("r").append(n).append(",2000,0,0,1,2,0;");
            bits |= 1 << n;
        }
        doc.is("all", Due.laid(text.toString()).held(), 255);
    }

    private void year() {
        doc.promise(11, "A YEAR: how many SACKS moved");
        StringBuilder text = new StringBuilder("m1,99999;");
        for (int n = 0; n < 8; n++) {
            text.append("r").append(n).append(",1000,0,0,9999,0,999;");
        }
        TwoMetals x = Due.laid(text.toString());
        doc.is("the most", x.year(), 8 * 999);
        doc.is("market's gold", x.market(0), 1 + 8 * 999);
        doc.is("none", new TwoMetals().year(), 0);
    }

    private void rest() {
        doc.promise(12, "SPENT (nothing changes)");
        TwoMetals x = someWorld();
        x.keep();
        String before = Sentences.stateOf(x);
        doc.is("it never rests", x.rest(), Due.SPENT);
        doc.is("it never rests", x.rest(), Due.SPENT);
        doc.unchanged(x, before);
        doc.is("none moves", Due.laid("r0,2000,0,0,5,5,5;m10,20;").rest(), 0);
    }

    private void goneAndStopped() {
        doc.promise(13, "GONE within n YEARS (metal 0 gold, 1 silver). NONE; BAD");
        TwoMetals x = someWorld();
        doc.is("gold", x.gone(1, 0, 100), Due.NONE);
        doc.is("silver", x.gone(6, 1, 1), 1);
        doc.bad("metal 2", x.gone(6, 2, 1));
        for (int metal : WHATS_FOR_NONE) {
            doc.bad("metal " + metal, x.gone(6, metal, 1));
        }
        doc.promise(14, "NONE; BAD; NO: it does not mint");
        doc.is("it does not mint", x.stopped(1, 1), Due.NO);
        doc.is("it limps, but mints", x.stopped(6, 100), Due.NONE);
        doc.is("it mints", x.stopped(3, 100), Due.NONE);
    }

    private void freeAndAhead() {
        doc.promise(15, "FREE within n YEARS. NONE; BAD");
        TwoMetals x = Due.laid("r0,2000,0,0,1,2,0;m10,20;");
        doc.is("none within 100", x.free(100), Due.NONE);
        doc.is("none within 1", x.free(1), Due.NONE);
        doc.bad("101", x.free(101));
        doc.bad("0", x.free(0));
        doc.promise(16, "THE RATIO in n YEARS. BAD");
        doc.is("1", x.ahead(1), 2000);
        doc.is("100", x.ahead(100), 2000);
        doc.bad("101", x.ahead(101));
        doc.bad("0", x.ahead(0));
    }

    private void debt() {
        doc.promise(17, "1 if gold is paid, 0 (1). BAD; NO: it does not mint");
        TwoMetals x = someWorld();
        doc.is("it does not mint", x.debt(1, 1, 0), Due.NO);
        doc.is("it mints", x.debt(3, 1, 1), 1);
        doc.bad("what = 2", x.debt(3, 1, 2));
        for (int what : WHATS_FOR_NONE) {
            doc.bad("what = " + what, x.debt(3, 1, what));
        }
    }

    private void pactAndFewest() {
        doc.promise(18, "THE RATIO then (1). BAD; SPENT");
        TwoMetals x = someWorld();
        doc.is("it never rests", x.pact(8, 2000, 1), Due.SPENT);
        doc.bad("what = 2", x.pact(8, 2000, 2));
        for (int what : WHATS_FOR_NONE) {
            doc.bad("what = " + what, x.pact(8, 2000, what));
        }
        doc.promise(19, "NONE; BAD. (A PACT that is SPENT does not HOLD.)");
        doc.is("each is spent", x.fewest(2000), Due.NONE);
        // both rest at 1500; at 2000 the one with a way holds (1667 to 2500), the other goes to and fro
        TwoMetals y = Due.laid("r0,1500,0,200,5,100,0;r4,1500,0,0,5,100,0;m10,15;");
        doc.is("realm 4 alone, spent", y.pact(16, 2000, 0), Due.SPENT);
        doc.is("realm 0 alone", y.pact(1, 2000, 0), 1);
        doc.is("so realm 0", y.fewest(2000), 1);
        TwoMetals z = Due.laid("r0,1500,0,0,5,100,0;r4,1500,0,200,5,100,0;m10,15;");
        doc.is("realm 0 alone, spent", z.pact(1, 2000, 0), Due.SPENT);
        doc.is("realm 4 alone", z.pact(16, 2000, 0), 1);
        doc.is("so realm 4", z.fewest(2000), 16);
    }

    private void boughtAndCorner() {
        doc.promise(20, "THE RATIO then (realm = -1), the gold of a REALM. BAD; SPENT");
        TwoMetals x = someWorld();
        doc.is("it never rests", x.bought(0, -1), Due.SPENT);
        doc.is("it never rests", x.bought(0, 3), Due.SPENT);
        doc.bad("-2", x.bought(0, -2));
        TwoMetals y = Due.laid("r0,2000,0,0,5,5,0;m10,20;");
        doc.is("-1", y.bought(0, -1), 2000);
        doc.is("0", y.bought(0, 0), 5);
        doc.promise(21, "NONE; BAD; NO: it does not mint. (What is SPENT is passed over.)");
        doc.is("it does not mint", x.corner(1), Due.NO);
        // with 0, 1 or all four bought it rests, with two it never does
        TwoMetals z = Due.laid("r0,2000,0,200,2,0,0;m4,10;");
        doc.is("two", z.bought(2, 0), Due.SPENT);
        doc.is("none", z.bought(0, 0), 2);
        doc.is("all", z.bought(4, 0), 0);
        doc.is("so all", z.corner(0), 4);
        doc.is("none but such as are spent", Due.laid("r0,2000,0,0,9,100,0;m1,1;").corner(0), Due.NONE);
        // realm 0 has no gold; realm 1 goes to and fro but for 2000, where the market is with one bought of the first
        String other = "r0,2000,0,0,0,0,0;r1,2000,0,0,5,100,0;";
        doc.is("0 is passed over, too", Due.laid(other + "m11,20;").corner(0), 1);
        doc.is("so is each", Due.laid(other + "m10,15;").corner(0), Due.NONE);
    }

    private void moveAndMelted() {
        doc.promise(22, "MOVED: what R was. BAD");
        TwoMetals x = someWorld();
        doc.is("of one that mints no more", x.move(1, 1000), 2000);
        doc.is("of one that limps", x.move(6, 99999), 2000);
        doc.bad("999", x.move(1, 999));
        doc.bad("100000", x.move(1, 100000));
        doc.is("as it was", x.move(1, 1001), 1000);
        doc.promise(23, "MELTED");
        TwoMetals y = Due.laid("r0,1000,0,0,0,0,0;r7,1000,0,0,0,0,0;m1,1;");
        doc.is("even", y.melted(), 0);
        y.move(0, 2000);
        doc.is("below", y.melted(), 0);
        doc.is("above", Due.laid("r0,1001,0,0,0,0,0;r7,1000,0,0,0,0,0;m999,1000;").melted(), 128);
    }

    private void keepAndBack() {
        doc.promise(24, "KEPT: how many. FULL");
        TwoMetals x = someWorld();
        doc.is("one", x.keep(), 1);
        doc.is("two", x.keep(), 2);
        doc.is("three", x.keep(), Due.FULL);
        doc.is("two are kept", x.count(4), 2);
        doc.promise(25, "As KEPT last: how many are left. NO");
        doc.is("one left", x.back(), 1);
        doc.is("none left", x.back(), 0);
        x.year();
        String before = Sentences.stateOf(x);
        doc.is("no more", x.back(), Due.NO);
        doc.is("no more", x.back(), Due.NO);
        doc.unchanged(x, before);
        doc.is("it can be kept again", x.keep(), 1);
    }

    private void count() {
        doc.promise(26, "0 REALMS, 1 bytes of THE TEXT, 2 REALMS that mint, 3 SACKS of gold in all, 4 KEPT. BAD");
        TwoMetals x = someWorld();
        doc.is("realms", x.count(0), 3);
        doc.is("bytes", x.count(1), WORLD.length());
        doc.is("realms that mint", x.count(2), 2);
        doc.is("gold", x.count(3), 25);
        doc.is("kept", x.count(4), 0);
        TwoMetals y = Due.laid("r0,1000,0,0,1,0,0;r7,1000,0,0,20,0,0;m300,0;");
        doc.is("gold of the first realm and the last", y.count(3), 321);
        doc.bad("5", x.count(5));
        for (int what : WHATS_FOR_NONE) {
            doc.bad("count(" + what + ")", x.count(what));
        }
    }

    private void realmsThatAreNot() {
        doc.terms("BAD: a number is none that is told (a REALM: such as there is)");
        TwoMetals x = someWorld();
        for (int n : NO_REALMS) {
            doc.bad("realm " + n, x.realm(n, 0));
            doc.bad("moves " + n, x.moves(n));
            doc.bad("ends " + n, x.ends(n, 0));
            doc.bad("gone " + n, x.gone(n, 0, 1));
            doc.bad("stopped " + n, x.stopped(n, 1));
            doc.bad("debt " + n, x.debt(n, 1, 0));
            doc.bad("corner " + n, x.corner(n));
            doc.bad("move " + n, x.move(n, 1000));
            if (n != -1) {
                doc.bad("bought " + n, x.bought(0, n));
            }
        }
    }

    private void ofSeveralTheFirst() {
        doc.terms("Of several the first");
        doc.bad("too many bytes for a call and for a text", fullyWritten(new TwoMetals()).write(9, 0));
        TwoMetals x = someWorld();
        doc.bad("a wrong span, and it does not mint", x.stopped(1, 0));
        doc.bad("a wrong debt, and it does not mint", x.debt(1, 0, 0));
        doc.bad("a wrong what, and it does not mint", x.debt(1, 1, 2));
        doc.bad("a wrong what, and it never rests", x.pact(8, 2000, 2));
        doc.bad("one does not mint, and it never rests", x.pact(10, 2000, 0));
        doc.bad("no such realm, and it never rests", x.bought(0, 7));
        doc.bad("too many, and it never rests", x.bought((int) x.market(0) + 1, -1));
        doc.is("it does not mint, and it never rests", x.corner(1), Due.NO);
    }

    private void nothingChanges() {
        doc.terms("nothing changes then");
        TwoMetals x = someWorld();
        x.keep();
        x.year();
        x.keep();
        x.year();
        String before = Sentences.stateOf(x);
        doc.bad("write", x.write(0, -1));
        doc.bad("write", x.write(9, -1));
        doc.is("keep", x.keep(), Due.FULL);
        doc.is("rest", x.rest(), Due.SPENT);
        doc.is("pact", x.pact(8, 2000, 0), Due.SPENT);
        doc.bad("pact", x.pact(8, 3000, 2));
        doc.bad("pact", x.pact(10, 3000, 0));
        doc.is("fewest", x.fewest(2000), Due.NONE);
        doc.is("bought", x.bought(1, 3), Due.SPENT);
        doc.bad("bought", x.bought(1, 7));
        doc.is("stopped", x.stopped(1, 9), Due.NO);
        doc.is("corner", x.corner(1), Due.NO);
        doc.is("debt", x.debt(1, 9, 0), Due.NO);
        doc.bad("gone", x.gone(3, 2, 9));
        doc.bad("ahead", x.ahead(101));
        doc.bad("move", x.move(3, 999));
        doc.bad("move", x.move(0, 3000));
        doc.unchanged(x, before);
        x.write(1, 'x');
        before = Sentences.stateOf(x);
        doc.is("lay", x.lay(), Due.NO);
        doc.unchanged(x, before);
        doc.is("the second that is kept", x.back(), 1);
        doc.is("its year", x.market(3), 2);
        doc.is("the first that is kept", x.back(), 0);
        doc.is("its year", x.market(3), 1);
        fullTextChangesNothing();
    }

    private void fullTextChangesNothing() {
        TwoMetals x = new TwoMetals();
        Due.write(x, "k1;".repeat(133));
        String before = Sentences.stateOf(x);
        for (int n = 2; n <= 8; n++) {
            doc.is("write", x.write(n, 0x6b313b6b313b6b31L), Due.FULL);
        }
        doc.unchanged(x, before);
    }

    private void lastOfItsCalls() {
        doc.terms("An object is used for at most 512 calls after it has been made");
        // three calls for the text, one to lay it, 503 years, five questions
        TwoMetals x = new TwoMetals();
        Due.write(x, "k9999;g0,9999,9999;");
        doc.is("lay", x.lay(), 0);
        for (int i = 0; i < 503; i++) {
            x.year();
        }
        doc.is("the year", x.market(3), 503);
        doc.is("gold in all", x.count(3), 503 * 9999);
        doc.is("silver", x.market(1), 503L * 9999 * 1000);
        doc.is("the ratio", x.market(2), 9999);
        doc.is("the ratio in a hundred years", x.ahead(100), 9999);
    }
}
