/** Promises 1 to 5: a new object, write, wipe, fault, lay. */
public final class TextTest {
    private static final String REALM = "r0,2000,100,50,5,100,3;";

    private final Due due = new Due("text");

    public static void main(String[] args) {
        TextTest test = new TextTest();
        test.aNewObject();
        test.writing();
        test.writingTooMuch();
        test.wiping();
        test.faultsOfForm();
        test.faultsOfRealms();
        test.faultsOfOtherItems();
        test.placesOfFaults();
        test.fullTexts();
        test.wipedBytesAreGone();
        test.laying();
        test.layingAgain();
        test.lastWordsCount();
        test.due.finish();
    }

    private void aNewObject() {
        TwoMetals x = new TwoMetals();
        due.is("new: count(0)", x.count(0), 0);
        due.is("new: count(1)", x.count(1), 0);
        due.is("new: count(2)", x.count(2), 0);
        due.is("new: count(3)", x.count(3), 0);
        due.is("new: count(4)", x.count(4), 0);
        due.is("new: market(0)", x.market(0), 0);
        due.is("new: market(1)", x.market(1), 0);
        due.is("new: market(2)", x.market(2), 1000000);
        due.is("new: market(3)", x.market(3), 0);
        due.is("new: fault()", x.fault(), Due.NONE);
        due.is("new: lay()", x.lay(), 0);
        due.is("new: held()", x.held(), 0);
        for (int n = -1; n <= 8; n++) {
            due.is("new: realm", x.realm(n, 0), Due.BAD);
        }
    }

    private void writing() {
        TwoMetals x = new TwoMetals();
        due.is("write(0)", x.write(0, 'k'), Due.BAD);
        due.is("write(9)", x.write(9, 'k'), Due.BAD);
        due.is("write(-1)", x.write(-1, 'k'), Due.BAD);
        due.is("write(least)", x.write(Integer.MIN_VALUE, 'k'), Due.BAD);
        due.is("nothing written", x.count(1), 0);
        // what stands above the n bytes is not written
        due.is("write(1)", x.write(1, 0x7a7a7a6bL), 1);
        due.is("write(2)", x.write(2, 0xffff353bL), 3);
        due.is("k5;", x.fault(), Due.NONE);
        due.is("write(8)", x.write(8, 0x6d31302c32303b6bL), 11);
        due.is("m10,20;k", x.fault(), 10);
        due.is("write(3)", x.write(3, 0x31303bL), 14);
        due.is("lay()", x.lay(), 0);
        due.is("gold", x.market(0), 10);
        due.is("silver", x.market(1), 20000);
        due.is("ratio", x.market(2), 20);
    }

    private void writingTooMuch() {
        TwoMetals x = new TwoMetals();
        for (int i = 1; i <= 49; i++) {
            due.is("write", x.write(8, -1L), 8 * i);
        }
        due.is("write to 399", x.write(7, 0), 399);
        due.is("two more", x.write(2, 0), Due.FULL);
        due.is("eight more", x.write(8, 0), Due.FULL);
        due.is("nine more", x.write(9, 0), Due.BAD);
        due.is("still 399", x.count(1), 399);
        due.is("one more", x.write(1, 0), 400);
        due.is("yet one more", x.write(1, 0), Due.FULL);
        due.is("still 400", x.count(1), 400);
        due.is("fault", x.fault(), 0);
        due.is("lay", x.lay(), Due.NO);
        due.is("wipe", x.wipe(), 400);
        due.is("write again", x.write(1, 0), 1);
    }

    private void wiping() {
        TwoMetals x = Due.laid(REALM + "m10,20;");
        due.is("wipe", x.wipe(), REALM.length() + 7);
        due.is("wipe", x.wipe(), 0);
        due.is("what is laid stays", x.market(0), 10);
        due.is("its realm stays", x.count(0), 1);
        due.is("no fault", x.fault(), Due.NONE);
        due.is("lay nothing", x.lay(), 0);
        due.is("no realm", x.realm(0, 0), Due.BAD);
        due.is("no gold", x.market(0), 0);
    }

    private void faultsOfForm() {
        String[] wrong = {
            "k", "k;", "k5", "k,", "k5,", "k5,;", "k5,6;", "K5;", "x5;", "5;", ";", "k 5;", "k5 ;", " k5;", "k-5;",
            "k+5;", "k000005;", "k123456;", "m1;", "m1,2,3;", "m,2;", "m1,;", "m1,,2;", "m1;2;", "m1.2;", "g0,1;",
            "g0,1,2,3;", "r0,1000,0,0,0,0;", "r0,1000,0,0,0,0,0,0;", "r0,1000,0,0,0,0,0", "r0,1000,0,0,0,0,",
            "\u00eb5;", "k\u00b5;", "k5\u00bb", "\0", "k5\n;", "m100000,0;", "m0,100000;"
        };
        for (String text : wrong) {
            due.is("fault of '" + text + "'", Due.faultOf(text), 0);
        }
        String[] right = {"", "k5;", "k00005;", "m00000,00000;", "m99999,99999;", "k1;k2;m0,0;g0,0,0;", "g00099,00000,09999;"};
        for (String text : right) {
            due.is("fault of '" + text + "'", Due.faultOf(text), Due.NONE);
        }
    }

    private void faultsOfRealms() {
        String[] wrong = {
            "r8,1000,0,0,0,0,0;", "r10,1000,0,0,0,0,0;", "r0,999,0,0,0,0,0;", "r0,0,0,0,0,0,0;",
            "r0,1000,1000,0,0,0,0;", "r0,1000,0,201,0,0,0;", "r0,1000,0,0,10000,0,0;", "r0,1000,0,0,0,10000,0;",
            "r0,1000,0,0,0,0,1000;", "r0,100000,0,0,0,0,0;"
        };
        for (String text : wrong) {
            due.is("fault of '" + text + "'", Due.faultOf(text), 0);
        }
        String[] right = {
            "r0,1000,0,0,0,0,0;", "r7,99999,999,200,9999,9999,999;", "r00007,01000,00000,00000,00000,00000,00000;",
            "r7,1000,0,0,0,0,0;r0,1000,0,0,0,0,0;"
        };
        for (String text : right) {
            due.is("fault of '" + text + "'", Due.faultOf(text), Due.NONE);
        }
        due.is("told twice", Due.faultOf(REALM + REALM), REALM.length());
        due.is("told twice, other figures", Due.faultOf(REALM + "r00,1000,0,0,0,0,0;"), REALM.length());
    }

    private void faultsOfOtherItems() {
        int behind = REALM.length();
        String[] wrong = {
            "l1;", "l8;", "l99999;", "s1,5;", "s8,5;", "s0,10000;", "k0;", "k10000;", "g100,0,0;", "g0,10000,0;",
            "g0,0,10000;"
        };
        for (String text : wrong) {
            due.is("fault of '" + text + "'", Due.faultOf(REALM + text), behind);
        }
        String[] right = {
            "l0;", "l0;l0;", "s0,0;", "s0,9999;", "s0,5;s0,6;", "l0;s0,5;l0;", "k1;", "k9999;", "g0,0,0;",
            "g99,9999,9999;", "g5,1,1;g5,2,2;g4,1,1;", "m0,0;m1,1;"
        };
        for (String text : right) {
            due.is("fault of '" + text + "'", Due.faultOf(REALM + text), Due.NONE);
        }
        due.is("limps ahead of its realm", Due.faultOf("l0;" + REALM), 0);
        due.is("stops ahead of its realm", Due.faultOf("k5;s0,5;" + REALM), 3);
    }

    private void placesOfFaults() {
        due.is("second item", Due.faultOf("k5;k0;"), 3);
        due.is("the first of two", Due.faultOf("k5;k0;k0;"), 3);
        due.is("an item that does not end", Due.faultOf("k5;m1,2;k5"), 8);
        due.is("a lone letter", Due.faultOf("k5;m1,2;k"), 8);
        due.is("a sign behind an item", Due.faultOf("k5;;"), 3);
        due.is("an item's first byte, not the wrong one", Due.faultOf("k5;m10,x0;"), 3);
    }

    private void fullTexts() {
        String most = "k1;".repeat(132);
        due.is("400 bytes", Due.faultOf(most + "k01;"), Due.NONE);
        due.is("400 bytes that end in figures", Due.faultOf(most + "k123"), 396);
        due.is("400 bytes that end in a comma", Due.faultOf(most + "m12,"), 396);
        due.is("400 bytes that end in a letter", Due.faultOf(most + "k1;k"), 399);
    }

    private void wipedBytesAreGone() {
        String[] begun = {"k", "k5", "k55", "m", "m1", "m1,", "m1,2", "m1,22"};
        for (String text : begun) {
            TwoMetals x = new TwoMetals();
            Due.write(x, text.charAt(0) == 'k' ? "k55;" : "m1,22;");
            x.wipe();
            Due.write(x, text);
            due.is("fault of '" + text + "' where more was", x.fault(), 0);
        }
    }

    private void laying() {
        TwoMetals x = Due.laid(REALM + "m10,20;g0,1,1;");
        x.keep();
        x.year();
        due.is("a year went", x.market(3), 1);
        long gold = x.market(0);
        x.write(1, 'x');
        due.is("lay with a fault", x.lay(), Due.NO);
        due.is("nothing changed: the year", x.market(3), 1);
        due.is("nothing changed: the gold", x.market(0), gold);
        due.is("nothing changed: the realms", x.count(0), 1);
        due.is("nothing changed: what is kept", x.count(4), 1);
        due.is("nothing changed: the text", x.count(1), REALM.length() + 7 + 7 + 1);
        due.is("fault changes nothing", x.fault(), REALM.length() + 14);
        due.is("the gold still", x.market(0), gold);
        x.year();
        due.is("the mines still", x.count(3), 5 + 10 + 2);
    }

    private void layingAgain() {
        TwoMetals x = Due.laid("r3,1500,0,0,7,8,9;l3;s3,99;k2000;m10,20;g0,1,1;");
        x.keep();
        x.year();
        due.is("stopped", x.realm(3, 6), 0);
        due.is("lay again", x.lay(), 1);
        due.is("the year", x.market(3), 0);
        due.is("nothing is kept", x.count(4), 0);
        due.is("no way back", x.back(), Due.NO);
        due.is("mints again", x.realm(3, 6), 1);
        x.wipe();
        Due.write(x, "r3,1500,0,0,7,8,9;r5,1500,0,0,0,0,0;m10,20;");
        due.is("lay another", x.lay(), 2);
        due.is("limps no more", x.realm(3, 7), 0);
        due.is("scarcity is 1000 without", x.market(2), 2000);
        x.year();
        due.is("no mines of gold without", x.count(3), 17);
        due.is("no mines of silver without", x.market(1) + x.realm(3, 4), 28000);
        due.is("stops no more", x.realm(3, 6), 1);
        x.wipe();
        Due.write(x, "r5,1500,0,0,0,0,0;");
        due.is("lay a third", x.lay(), 1);
        due.is("the market is empty without", x.market(0) + x.market(1), 0);
        due.is("a realm that is told no more", x.realm(3, 0), Due.BAD);
        due.is("its gold is no more", x.count(3), 0);
        due.is("its mint is no more", x.count(2), 1);
        x.wipe();
        Due.write(x, "g0,5,5;g3,1,1;");
        x.lay();
        x.wipe();
        Due.write(x, "g0,2,2;");
        x.lay();
        Due.years(x, 4);
        due.is("mines of an earlier text", x.market(0), 8);
    }

    private void lastWordsCount() {
        TwoMetals x = Due.laid("m1,1;r0,1000,0,0,5,0,0;k1;s0,9;m10,20;k500;s0,4;");
        due.is("gold", x.market(0), 10);
        due.is("silver", x.market(1), 20000);
        due.is("ratio", x.market(2), 1000);
        x.year();
        due.is("stops at the last word", x.realm(0, 6), 1);
        TwoMetals y = Due.laid("g2,5,0;g0,1,0;g2,7,0;");
        y.year();
        due.is("year 0", y.market(0), 1);
        y.year();
        due.is("year 1", y.market(0), 2);
        y.year();
        due.is("year 2: the last of these", y.market(0), 9);
        y.year();
        due.is("year 3", y.market(0), 16);
    }
}
