/** The edges that the document names where it tells what a text is, sentence by sentence. */
public final class TextSentencesTest {
    private static final String AHEAD = "r1,1000,0,0,0,0,0;";
    private static final String[][] ITEMS = {
        {"r", "7", "1000", "0", "0", "0", "0", "0"}, {"l", "1"}, {"s", "1", "0"}, {"m", "0", "0"}, {"k", "1"},
        {"g", "0", "0", "0"}
    };

    private final Sentences doc = new Sentences("sentences of texts");

    public static void main(String[] args) {
        TextSentencesTest test = new TextSentencesTest();
        test.fourHundredBytes();
        test.aLetter();
        test.oneToFiveFigures();
        test.partedNumbers();
        test.realmsNumber();
        test.realmsOnce();
        test.realmsLaw();
        test.realmsCut();
        test.realmsWay();
        test.realmsSacks();
        test.realmsYearlySacks();
        test.limpingRealms();
        test.stoppingRealms();
        test.stoppingAtLastWord();
        test.theMarket();
        test.scarcity();
        test.mines();
        test.minesOfSeveral();
        test.placeOfTheFault();
        test.laidTexts();
        test.nothingOfAnEarlierText();
        test.doc.finish();
    }

    private static TwoMetals filledTo(int length) {
        TwoMetals x = new TwoMetals();
        Due.write(x, "k".repeat(length));
        return x;
    }

    private void fourHundredBytes() {
        doc.terms("A TEXT are bytes (400 at most)");
        for (int n = 1; n <= 8; n++) {
            doc.is(n + " to 400", filledTo(400 - n).write(n, 0), 400);
            TwoMetals x = filledTo(401 - n);
            doc.is(n + " to 401", x.write(n, 0), Due.FULL);
            doc.is("as long as before", x.count(1), 401 - n);
            doc.is("one to the first of these", filledTo(401 - n).write(1, 0), n == 1 ? Due.FULL : 402 - n);
        }
        TwoMetals y = new TwoMetals();
        String most = "k1;".repeat(127) + AHEAD + "k";
        doc.is("400 bytes", Due.write(y, most), 400);
        doc.is("the last is looked at", y.fault(), 399);
        y.wipe();
        Due.write(y, "k00001;" + "k1;".repeat(125) + AHEAD);
        doc.is("400 bytes", y.count(1), 400);
        doc.is("laid to the last", y.lay(), 1);
    }

    /** Behind realm 1. */
    private void fits(String item) {
        doc.is("'" + item + "' fits", Due.faultOf(AHEAD + item), Due.NONE);
    }

    private void isFault(String item) {
        doc.is("'" + item + "' is a fault", Due.faultOf(AHEAD + item), AHEAD.length());
    }

    private void aLetter() {
        doc.terms("ITEMS one behind the other, each a letter");
        for (char letter = 0; letter < 256; letter++) {
            if (letter == 'k' || letter == 'l') {
                fits(letter + "1;");
            } else {
                isFault(letter + "1;");
            }
        }
        fits("");
        fits("k1;k1;l1;m0,0;");
    }

    private static String joined(String[] item, int parts) {
        StringBuilder text = new StringBuilder(item[0]);
        for (int i = 1; i <= parts; i++) {
            text.append(i > 1 ? "," : "").append(item[i]);
        }
        return text.toString();
    }

    private static String with(String[] item, int place, String number) {
        String[] other = item.clone();
        other[place] = number;
        return joined(other, other.length - 1) + ";";
    }

    private static String padded(String number, int figures) {
        return "0".repeat(figures - number.length()) + number;
    }

    private void oneToFiveFigures() {
        doc.terms("numbers (one to five figures)");
        for (String[] item : ITEMS) {
            for (int place = 1; place < item.length; place++) {
                isFault(with(item, place, ""));
                fits(with(item, place, item[place]));
                fits(with(item, place, padded(item[place], 5)));
                isFault(with(item, place, padded(item[place], 6)));
                isFault(with(item, place, "-" + item[place]));
                isFault(with(item, place, "+" + item[place]));
                isFault(with(item, place, " " + item[place]));
                isFault(with(item, place, item[place] + "/"));
                isFault(with(item, place, item[place] + ":"));
                isFault(with(item, place, item[place] + "a"));
            }
        }
        doc.is("five figures are read", Due.laid("m12345,54321;").market(1), 54321000);
    }

    private void partedNumbers() {
        doc.terms("parted by , and ;");
        for (String[] item : ITEMS) {
            int numbers = item.length - 1;
            String all = joined(item, numbers);
            fits(all + ";");
            isFault(all);
            isFault(all + ",");
            isFault(all + ",;");
            isFault(all + ",0;");
            isFault(all + ".");
            isFault(joined(item, numbers - 1) + ";");
            isFault(joined(item, numbers - 1) + ",;");
            if (numbers > 1) {
                isFault(all.replaceFirst(",", ";") + ";");
                isFault(all.replaceFirst(",", ",,") + ";");
                isFault(all.replaceFirst(",", "") + ";");
            }
            doc.is("'" + all + ";;'", Due.faultOf(AHEAD + all + ";;"), AHEAD.length() + all.length() + 1);
        }
    }

    private static String realm(int n) {
        return "r" + n + ",1000,0,0,0,0,0;";
    }

    private void realmsNumber() {
        doc.terms("REALM N (0 to 7; once)");
        for (int n = 0; n <= 7; n++) {
            TwoMetals x = Due.laid(realm(n));
            for (int other = 0; other <= 7; other++) {
                doc.is("realm " + other + " by " + realm(n), x.realm(other, 0), other == n ? 1000 : Due.BAD);
            }
        }
        int[] wrong = {8, 9, 10, 15, 16, 17, 32, 33, 70, 99999};
        for (int n : wrong) {
            isFault(realm(n));
        }
    }

    private void realmsOnce() {
        doc.terms("REALM N (0 to 7; once)");
        StringBuilder eight = new StringBuilder();
        for (int n = 7; n >= 0; n--) {
            eight.append(realm(n));
        }
        for (int n = 0; n <= 7; n++) {
            doc.is("a second realm " + n, Due.faultOf(eight + realm(n)), eight.length());
        }
        doc.is("eight", Due.laid(eight.toString()).count(0), 8);
    }

    /** A number's least and greatest fit and are told by the realm; what lies beside them is a fault. */
    private void realmsRange(int place, int least, int most, int what, int scale) {
        String[] item = {"r", "0", "5000", "5", "5", "5", "5", "5"};
        int[] fitting = {least, least + 1, most - 1, most};
        for (int number : fitting) {
            TwoMetals x = Due.laid(with(item, place, "" + number));
            doc.is(with(item, place, "" + number), x.realm(0, what), (long) number * scale);
        }
        int[] wrong = {least - 1, most + 1, 99999, 0};
        for (int number : wrong) {
            if (number < least || number > most) {
                isFault(with(item, place, "" + number));
            }
        }
    }

    private void realmsLaw() {
        doc.terms("at R thousandths (1000 to 99999)");
        realmsRange(2, 1000, 99999, 0, 1);
    }

    private void realmsCut() {
        doc.terms("its CUT is C thousandths (0 to 999)");
        realmsRange(3, 0, 999, 1, 1);
    }

    private void realmsWay() {
        doc.terms("its WAY W thousandths (0 to 200)");
        realmsRange(4, 0, 200, 2, 1);
    }

    private void realmsSacks() {
        doc.terms("it has A SACKS of gold (0 to 9999), B of silver (0 to 9999)");
        realmsRange(5, 0, 9999, 3, 1);
        realmsRange(6, 0, 9999, 4, 1000);
    }

    private void realmsYearlySacks() {
        doc.terms("F SACKS of gold a year may go out or come in (0 to 999)");
        realmsRange(7, 0, 999, 5, 1);
        int[] sacks = {0, 1, 2, 998, 999};
        for (int f : sacks) {
            TwoMetals out = Due.laid("r0,1000,0,0,9999,0," + f + ";m1,99999;");
            doc.is("out in a year", out.year(), f);
            doc.is("gold", out.realm(0, 3), 9999 - f);
            doc.is("out in another", out.year(), f);
            doc.is("gold", out.realm(0, 3), 9999 - 2 * f);
            TwoMetals in = Due.laid("r0,1000,0,0,0,9999," + f + ";m9999,0;");
            doc.is("in in a year", in.year(), f);
            doc.is("gold", in.realm(0, 3), f);
            doc.is("in in another", in.year(), f);
            doc.is("gold", in.realm(0, 3), 2 * f);
        }
    }

    private void limpingRealms() {
        doc.terms("REALM N (told ahead) LIMPS");
        for (int n = 0; n <= 7; n++) {
            String limps = "l" + n + ";";
            doc.is("behind its realm", Due.faultOf(realm(n) + limps), Due.NONE);
            doc.is("ahead of its realm", Due.faultOf(limps + realm(n)), 0);
            doc.is("behind another", Due.faultOf(realm(7 - n) + limps), realm(n).length());
            TwoMetals x = Due.laid(realm(n) + realm(7 - n) + limps);
            doc.is("realm " + n, x.realm(n, 7), 1);
            doc.is("the other", x.realm(7 - n, 7), 0);
        }
        isFault("l8;");
        isFault("l9;");
        isFault("l33;");
        isFault("l99999;");
        doc.is("told twice", Due.laid(AHEAD + "l1;l1;").realm(1, 7), 1);
        doc.is("told thrice", Due.laid(AHEAD + "l1;l1;l1;").realm(1, 7), 1);
    }

    private static long mintsAfterAYear(int gold, String stops) {
        TwoMetals x = Due.laid("r1,1000,0,0," + gold + ",0,0;" + stops);
        x.year();
        return x.realm(1, 6);
    }

    private void stoppingRealms() {
        doc.terms("REALM N (told ahead) STOPS when it has G SACKS of gold or fewer (0 to 9999; the last one) at a year's end");
        doc.is("ahead of its realm", Due.faultOf("s1,5;" + AHEAD), 0);
        isFault("s0,5;");
        isFault("s8,5;");
        isFault("s33,5;");
        isFault("s1,10000;");
        fits("s1,9999;");
        doc.is("none by 0", mintsAfterAYear(0, "s1,0;"), 0);
        doc.is("one by 0", mintsAfterAYear(1, "s1,0;"), 1);
        doc.is("4 by 5", mintsAfterAYear(4, "s1,5;"), 0);
        doc.is("5 by 5", mintsAfterAYear(5, "s1,5;"), 0);
        doc.is("6 by 5", mintsAfterAYear(6, "s1,5;"), 1);
        doc.is("9999 by 9998", mintsAfterAYear(9999, "s1,9998;"), 1);
        doc.is("9999 by 9999", mintsAfterAYear(9999, "s1,9999;"), 0);
        doc.is("none without", mintsAfterAYear(0, ""), 1);
        doc.is("not ahead of a year's end", Due.laid(AHEAD + "s1,9999;").realm(1, 6), 1);
    }

    private void stoppingAtLastWord() {
        doc.terms("(0 to 9999; the last one) at a year's end");
        doc.is("5 by 9, then 4", mintsAfterAYear(5, "s1,9;s1,4;"), 1);
        doc.is("5 by 4, then 9", mintsAfterAYear(5, "s1,4;s1,9;"), 0);
        doc.is("5 by 4, 9, then 4", mintsAfterAYear(5, "s1,4;s1,9;s1,4;"), 1);
        doc.is("none by 9, then 0", mintsAfterAYear(0, "s1,9;s1,0;"), 0);
        doc.is("another's word", mintsAfterAYear(5, "s1,4;r2,1000,0,0,0,0,0;s2,9;"), 1);
    }

    private void marketIs(String text, long gold, long silver) {
        TwoMetals x = Due.laid(text);
        doc.is("gold by '" + text + "'", x.market(0), gold);
        doc.is("silver by '" + text + "'", x.market(1), silver);
    }

    private void theMarket() {
        doc.terms("on THE MARKET are X SACKS of gold (0 to 99999), Y of silver (0 to 99999); the last one (without");
        marketIs("m0,0;", 0, 0);
        marketIs("m99999,0;", 99999, 0);
        marketIs("m0,99999;", 0, 99999000);
        marketIs("m99999,99999;", 99999, 99999000);
        isFault("m100000,0;");
        isFault("m0,100000;");
        marketIs("m9,9;m1,2;", 1, 2000);
        marketIs("m1,2;m9,9;", 9, 9000);
        marketIs("m9,9;m0,0;", 0, 0);
        doc.terms("0, 0)");
        marketIs("", 0, 0);
        marketIs(AHEAD + "k5;g1,1,1;", 0, 0);
    }

    private void ratioIs(String text, long ratio) {
        doc.is("ratio by '" + text + "'", Due.laid(text).market(2), ratio);
    }

    private void scarcity() {
        doc.terms("SCARCITY K (1 to 9999; 1000 without; the last one)");
        isFault("k0;");
        isFault("k00000;");
        isFault("k10000;");
        isFault("k99999;");
        ratioIs("m1,2;k1;", 2);
        ratioIs("m1,2;k9999;", 19998);
        ratioIs("m1,2;", 2000);
        ratioIs("m1,2;k5;k7;", 14);
        ratioIs("k7;m1,2;k5;", 10);
        ratioIs("k7;m1,2;k1000;", 2000);
    }

    private void minesBring(TwoMetals x, int year, long gold, long silver) {
        doc.is("the year", x.market(3), year);
        long goldWas = x.market(0);
        long silverWas = x.market(1);
        x.year();
        doc.is("gold of year " + year, x.market(0) - goldWas, gold);
        doc.is("silver of year " + year, x.market(1) - silverWas, silver * 1000);
    }

    private void mines() {
        doc.terms("from YEAR Y (0 to 99) on mines bring A SACKS of gold, B of silver (0 to 9999 each) to THE MARKET a year");
        isFault("g100,0,0;");
        isFault("g99999,0,0;");
        isFault("g0,10000,0;");
        isFault("g0,0,10000;");
        fits("g0,0,0;");
        fits("g99,9999,9999;");
        TwoMetals x = Due.laid("g0,9999,0;");
        minesBring(x, 0, 9999, 0);
        minesBring(x, 1, 9999, 0);
        TwoMetals y = Due.laid("g99,3,9999;");
        for (int year = 0; year < 99; year++) {
            y.year();
        }
        doc.is("nothing ahead of it", y.market(0) + y.market(1), 0);
        minesBring(y, 99, 3, 9999);
        minesBring(y, 100, 3, 9999);
        minesBring(y, 101, 3, 9999);
    }

    private void minesOfSeveral() {
        doc.terms("of several the one of the latest YEAR, of these the last (without: 0)");
        String[] orders = {"g0,1,2;g2,3,4;g4,0,0;", "g4,0,0;g2,3,4;g0,1,2;", "g2,3,4;g0,1,2;g4,0,0;", "g4,0,0;g0,1,2;g2,3,4;"};
        long[] gold = {1, 1, 3, 3, 0, 0};
        long[] silver = {2, 2, 4, 4, 0, 0};
        for (String order : orders) {
            TwoMetals x = Due.laid(order);
            for (int year = 0; year < gold.length; year++) {
                minesBring(x, year, gold[year], silver[year]);
            }
        }
        TwoMetals y = Due.laid("g1,5,5;g0,9,9;g1,7,8;g0,1,2;");
        minesBring(y, 0, 1, 2);
        minesBring(y, 1, 7, 8);
        minesBring(y, 2, 7, 8);
        TwoMetals z = Due.laid("g3,5,5;");
        minesBring(z, 0, 0, 0);
        minesBring(z, 1, 0, 0);
        minesBring(z, 2, 0, 0);
        minesBring(z, 3, 5, 5);
        minesBring(Due.laid(""), 0, 0, 0);
    }

    private void placeOfTheFault() {
        doc.terms("FAULT: the place of the first byte of the first ITEM that is not so");
        doc.is("the first byte", Due.faultOf("x"), 0);
        doc.is("the last byte", Due.faultOf("k1;m1,2;x"), 8);
        doc.is("its last number is wrong", Due.faultOf("k1;r0,1000,0,0,0,0,1000;k1;"), 3);
        doc.is("its first number is wrong", Due.faultOf("k1;r8,1000,0,0,0,0,0;k1;"), 3);
        doc.is("it does not end", Due.faultOf("k1;m1,2"), 3);
        doc.is("the first of several", Due.faultOf("k1;k0;x;k0;"), 3);
        doc.is("one that is told too early", Due.faultOf("k1;l1;" + AHEAD + "l1;"), 3);
        doc.is("one behind a second telling", Due.faultOf(AHEAD + "l1;" + AHEAD + "x"), AHEAD.length() + 3);
    }

    private void laidTexts() {
        doc.terms("LAID is a TEXT without FAULT (empty at first); it is YEAR 0 then");
        TwoMetals x = new TwoMetals();
        doc.is("year at first", x.market(3), 0);
        doc.is("realms at first", x.count(0), 0);
        Due.write(x, AHEAD + "m3,4;");
        doc.is("written, not laid", x.count(0), 0);
        doc.is("written, not laid", x.market(0), 0);
        Due.years(x, 3);
        doc.is("laid", x.lay(), 1);
        doc.is("year 0", x.market(3), 0);
        Due.years(x, 2);
        Due.write(x, "x");
        doc.is("a fault", x.lay(), Due.NO);
        doc.is("still laid", x.count(0), 1);
        doc.is("still the year", x.market(3), 2);
    }

    private void nothingOfAnEarlierText() {
        doc.terms("LAID is a TEXT without FAULT");
        TwoMetals x = Due.laid("r0,2000,0,0,9,9,0;l0;s0,99;r5,2000,0,0,9,9,0;l5;m10,20;k7;g0,3,4;g2,5,6;");
        // a text that is looked at, but not laid, leaves nothing either
        Due.write(x, "g1,8,8;k9;m9,9;x");
        x.fault();
        x.lay();
        x.wipe();
        Due.write(x, "r5,3000,0,0,1,1,0;");
        doc.is("lay", x.lay(), 1);
        doc.is("realm 0", x.realm(0, 0), Due.BAD);
        doc.is("realms that mint", x.count(2), 1);
        doc.is("gold in all", x.count(3), 1);
        doc.is("gold", x.market(0), 0);
        doc.is("silver", x.market(1), 0);
        doc.is("it limps no more", x.realm(5, 7), 0);
        Due.years(x, 3);
        doc.is("mines of gold", x.market(0), 0);
        doc.is("mines of silver", x.market(1), 0);
        doc.is("it stops no more", x.realm(5, 6), 1);
        x.wipe();
        Due.write(x, "m10,20;");
        x.lay();
        doc.is("scarcity", x.market(2), 2000);
        x.wipe();
        Due.write(x, "g0,1,1;");
        x.lay();
        Due.years(x, 3);
        doc.is("mines of later years: gold", x.market(0), 3);
        doc.is("mines of later years: silver", x.market(1), 3000);
    }
}
