/** Promises 11 to 16: year, rest, gone, stopped, free, ahead. */
public final class YearsTest {
    private static final String[] SPANS_AT_FAULT = {"0", "101", "-1", "-2147483648", "2147483647"};

    private final Due due = new Due("years");

    public static void main(String[] args) {
        YearsTest test = new YearsTest();
        test.aYear();
        test.realmsByNumbers();
        test.minesComeFirst();
        test.minesOfTheYear();
        test.stopping();
        test.resting();
        test.restThatNeverComes();
        test.restOfTheMostSacks();
        test.sacksOfAllRealmsCount();
        test.goneMetals();
        test.stoppedMints();
        test.freeRatio();
        test.lookingAhead();
        test.wrongNumbers();
        test.due.finish();
    }

    private void stands(TwoMetals x, String when, long... wanted) {
        due.is(when + ": the realm's gold", x.realm(0, 3), wanted[0]);
        due.is(when + ": the realm's silver", x.realm(0, 4), wanted[1]);
        due.is(when + ": the market's gold", x.market(0), wanted[2]);
        due.is(when + ": the market's silver", x.market(1), wanted[3]);
        due.is(when + ": the ratio", x.market(2), wanted[4]);
        due.is(when + ": the year", x.market(3), wanted[5]);
    }

    private void aYear() {
        TwoMetals x = Due.laid("r0,2000,0,0,5,100,3;m10,15;");
        stands(x, "first", 5, 100000, 10, 15000, 1500, 0);
        // in, in, out, and the three of the year are moved
        due.is("year()", x.year(), 3);
        stands(x, "a year later", 6, 98000, 9, 17000, 1888, 1);
        due.is("year()", x.year(), 3);
        stands(x, "two years later", 7, 96000, 8, 19000, 2375, 2);
        due.is("none may move", Due.laid("r0,2000,0,0,5,100,0;m10,15;").year(), 0);
        due.is("no realm", new TwoMetals().year(), 0);
    }

    private void realmsByNumbers() {
        // realm 0 goes first though it is told last: 5000, 1500, 666, then one comes in: 2000
        TwoMetals x = Due.laid("r1,1000,0,0,1,0,9;r0,2000,0,0,1,0,9;m1,5;");
        due.is("year()", x.year(), 3);
        stands(x, "by numbers", 1, 0, 2, 4000, 2000, 1);
        due.is("realm 1's gold", x.realm(1, 3), 0);
        due.is("realm 1's silver", x.realm(1, 4), 1000);
        // round by round: 22 go out (28000 by 23 is 1217, and 1250 is the end), and each moves one a round
        TwoMetals y = Due.laid("r0,1000,0,200,9,0,9;r1,1000,0,200,9,0,9;r2,1000,0,200,9,0,9;m1,50;");
        due.is("year()", y.year(), 22);
        due.is("of realm 0", y.realm(0, 3), 1);
        due.is("of realm 1", y.realm(1, 3), 2);
        due.is("of realm 2", y.realm(2, 3), 2);
    }

    private void minesComeFirst() {
        TwoMetals x = Due.laid("r0,2000,0,0,1,100,9;m10,20;g0,0,20;");
        due.is("nothing would move", x.moves(0), 0);
        due.is("year()", x.year(), 1);
        stands(x, "with mines", 0, 102000, 11, 38000, 3454, 1);
    }

    private void minesOfTheYear() {
        TwoMetals x = Due.laid("g1,5,7;g3,0,0;");
        long[] gold = {0, 5, 10, 10, 10};
        long[] silver = {0, 7000, 14000, 14000, 14000};
        for (int i = 0; i < gold.length; i++) {
            x.year();
            due.is("gold after year " + i, x.market(0), gold[i]);
            due.is("silver after year " + i, x.market(1), silver[i]);
        }
        TwoMetals z = Due.laid("k500;m10,20;g0,10,0;");
        z.year();
        due.is("the scarcity stays", z.market(2), 500);
        TwoMetals y = Due.laid("g98,1,0;g99,10,0;");
        Due.years(y, 98);
        due.is("after year 97", y.market(0), 0);
        y.year();
        due.is("after year 98", y.market(0), 1);
        y.year();
        due.is("after year 99", y.market(0), 11);
        Due.years(y, 3);
        due.is("after year 102", y.market(0), 41);
    }

    private void stopping() {
        TwoMetals x = Due.laid("r0,1000,0,0,3,0,2;s0,1;m1,99;");
        due.is("year()", x.year(), 2);
        due.is("stopped", x.realm(0, 6), 0);
        due.is("year()", x.year(), 0);
        due.is("rest()", x.rest(), 0);
        due.is("one left", x.realm(0, 3), 1);
        TwoMetals y = Due.laid("r0,1000,0,0,3,0,2;s0,0;m1,99;");
        y.year();
        due.is("one left is more than none", y.realm(0, 6), 1);
        due.is("the last one", y.year(), 1);
        due.is("none left", y.realm(0, 6), 0);
        TwoMetals z = Due.laid("r0,1000,0,0,0,0,2;m1,99;");
        z.year();
        due.is("one that does not stop", z.realm(0, 6), 1);
        // it has come under its measure at first, but not at the end
        TwoMetals w = Due.laid("r0,2000,0,0,4,100,9;s0,4;m10,10;");
        due.is("at the year's end alone", w.realm(0, 6), 1);
        due.is("year()", w.year(), 9);
        due.holds("it has gold enough then", w.realm(0, 3) > 4);
        due.is("so it mints", w.realm(0, 6), 1);
    }

    private void resting() {
        TwoMetals x = Due.laid("r0,1000,0,0,3,0,0;s0,9;m1,99;g0,5,5;");
        due.is("rest()", x.rest(), 3);
        stands(x, "at rest", 0, 3000, 4, 96000, 24000, 0);
        due.is("none stops", x.realm(0, 6), 1);
        due.is("rest()", x.rest(), 0);
        due.is("no realm", new TwoMetals().rest(), 0);
    }

    private void restThatNeverComes() {
        TwoMetals x = Due.laid("r0,2000,0,0,5,100,3;m10,15;");
        due.is("rest()", x.rest(), Due.SPENT);
        stands(x, "nothing changed", 5, 100000, 10, 15000, 1500, 0);
    }

    /** A realm that sells 2000 sacks of gold dear and may then buy as many as it has sacks of silver, 200000 and some. */
    private static TwoMetals richIn(int silver) {
        TwoMetals x = Due.laid("r0,99999,0,0,2000," + silver + ",0;m0,99999;g0,0,9999;g35,9999,0;");
        Due.years(x, 35);
        x.rest();
        Due.years(x, 70);
        x.move(0, 1000);
        return x;
    }

    private void restOfTheMostSacks() {
        TwoMetals x = richIn(2);
        stands(x, "first", 0, 200000000, 701930, 249966000, 356, 105);
        due.is("bought", x.bought(0, 0), 200000);
        due.is("pact", x.pact(1, 1000, 1), 896);
        due.is("rest()", x.rest(), 200000);
        stands(x, "at rest", 200000, 0, 501930, 449966000, 896, 105);
        TwoMetals y = richIn(3);
        due.is("rest()", y.rest(), Due.SPENT);
        stands(y, "nothing changed", 0, 200001000, 701930, 249966000, 356, 105);
        due.is("bought", y.bought(0, 0), Due.SPENT);
        due.is("pact", y.pact(1, 1000, 1), Due.SPENT);
        due.is("a dearer pact", y.pact(1, 2000, 1), 747);
    }

    /** Two such realms, of 100000 sacks of silver and some each. */
    private static TwoMetals twoRichIn(int silver, int ofTheOther) {
        TwoMetals x = Due.laid("r0,99999,0,0,1000," + silver + ",0;r5,99999,0,0,1000," + ofTheOther
            + ",0;m0,99999;g0,0,9999;g35,9999,0;");
        Due.years(x, 35);
        x.rest();
        Due.years(x, 70);
        x.move(0, 1000);
        x.move(5, 1000);
        return x;
    }

    private void sacksOfAllRealmsCount() {
        TwoMetals x = twoRichIn(1, 1);
        due.is("rest()", x.rest(), 200000);
        due.is("of realm 0", x.realm(0, 3), 100000);
        due.is("of realm 5", x.realm(5, 3), 100000);
        due.is("one more", twoRichIn(2, 1).rest(), Due.SPENT);
        due.is("one more", twoRichIn(1, 2).rest(), Due.SPENT);
    }

    private void goneMetals() {
        TwoMetals x = Due.laid("r0,1000,0,0,5,0,2;m1,99;");
        due.is("gold within 3", x.gone(0, 0, 3), 3);
        due.is("gold within 100", x.gone(0, 0, 100), 3);
        due.is("gold within 2", x.gone(0, 0, 2), Due.NONE);
        due.is("silver is gone now, but not a year on", x.gone(0, 1, 100), Due.NONE);
        stands(x, "all is as it was", 5, 0, 1, 99000, 99000, 0);
        TwoMetals y = Due.laid("r0,2000,0,0,0,5,1;m99,1;");
        due.is("silver within 5", y.gone(0, 1, 5), 2);
        due.is("silver within 2", y.gone(0, 1, 2), 2);
        due.is("silver within 1", y.gone(0, 1, 1), Due.NONE);
        due.is("gold comes", y.gone(0, 0, 100), Due.NONE);
        y.year();
        due.is("silver, a year on", y.gone(0, 1, 5), 1);
        TwoMetals z = Due.laid("r0,2000,0,0,0,2,0;s0,0;m1,1;");
        due.is("just enough silver", z.gone(0, 1, 1), Due.NONE);
        z.year();
        due.is("it need not mint", z.gone(0, 0, 1), 1);
        z.move(0, 2001);
        due.is("just too little silver", z.gone(0, 1, 1), 1);
    }

    private void stoppedMints() {
        TwoMetals x = Due.laid("r0,1000,0,0,5,0,2;s0,1;r1,1000,0,0,5,0,2;l1;m1,99;");
        due.is("within 1", x.stopped(0, 1), Due.NONE);
        due.is("within 2", x.stopped(0, 2), 2);
        due.is("within 100", x.stopped(0, 100), 2);
        due.is("never", x.stopped(1, 100), Due.NONE);
        stands(x, "all is as it was", 5, 0, 1, 99000, 99000, 0);
        due.is("it mints", x.realm(0, 6), 1);
        Due.years(x, 2);
        due.is("it does not mint", x.stopped(0, 100), Due.NO);
        due.is("a wrong number comes first", x.stopped(0, 101), Due.BAD);
    }

    private void freeRatio() {
        TwoMetals x = Due.laid("r0,2000,0,0,10,100,0;m10,20;g2,0,20;");
        due.is("within 1", x.free(1), Due.NONE);
        due.is("within 2", x.free(2), Due.NONE);
        due.is("within 3", x.free(3), 3);
        due.is("within 100", x.free(100), 3);
        stands(x, "all is as it was", 10, 100000, 10, 20000, 2000, 0);
        due.is("one that stops holds no more", Due.laid("r0,2000,0,0,10,100,0;s0,10;m10,20;").free(9), 1);
        due.is("another holds", Due.laid("r0,2000,0,0,10,100,0;s0,10;r1,2000,0,0,1,2,0;m10,20;").free(100), Due.NONE);
        due.is("no realm", new TwoMetals().free(1), 1);
    }

    private void lookingAhead() {
        TwoMetals x = Due.laid("m10,20;g0,10,0;g50,0,0;");
        due.is("ahead(1)", x.ahead(1), 1000);
        due.is("ahead(3)", x.ahead(3), 500);
        due.is("ahead(50)", x.ahead(50), 39);
        due.is("ahead(100)", x.ahead(100), 39);
        due.is("the year", x.market(3), 0);
        due.is("the gold", x.market(0), 10);
        x.year();
        due.is("ahead(2), a year on", x.ahead(2), 500);
    }

    private void wrongNumbers() {
        TwoMetals x = Due.laid("r3,1000,0,0,5,0,2;m1,99;");
        for (String span : SPANS_AT_FAULT) {
            int n = Integer.parseInt(span);
            due.is("gone(3, 0, " + span + ")", x.gone(3, 0, n), Due.BAD);
            due.is("stopped(3, " + span + ")", x.stopped(3, n), Due.BAD);
            due.is("free(" + span + ")", x.free(n), Due.BAD);
            due.is("ahead(" + span + ")", x.ahead(n), Due.BAD);
        }
        int[] realms = {-1, 0, 2, 4, 8, 35, Integer.MIN_VALUE, Integer.MAX_VALUE};
        for (int n : realms) {
            due.is("gone(" + n + ", 0, 1)", x.gone(n, 0, 1), Due.BAD);
            due.is("stopped(" + n + ", 1)", x.stopped(n, 1), Due.BAD);
        }
        due.is("gone(3, -1, 1)", x.gone(3, -1, 1), Due.BAD);
        due.is("gone(3, 2, 1)", x.gone(3, 2, 1), Due.BAD);
        due.is("no year went", x.market(3), 0);
    }
}
