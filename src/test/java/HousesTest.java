/** Promises 17 to 26: debt, pact, fewest, bought, corner, move, melted, keep, back, count. */
public final class HousesTest {
    private static final int[] NO_REALMS = {-2, 2, 7, 8, 32, Integer.MIN_VALUE, Integer.MAX_VALUE};

    private final Due due = new Due("houses");

    public static void main(String[] args) {
        HousesTest test = new HousesTest();
        test.debts();
        test.debtsWithWrongNumbers();
        test.pacts();
        test.pactsWithWrongNumbers();
        test.pactsThatNeverRest();
        test.fewestRealms();
        test.buying();
        test.cornering();
        test.moving();
        test.melting();
        test.keeping();
        test.counting();
        test.due.finish();
    }

    /** Realm 0 stops at the first year's end. */
    private static TwoMetals withOneThatStopped(String market) {
        TwoMetals x = Due.laid("r0,2000,0,0,5,100,0;s0,5;r1,2000,0,0,5,100,0;" + market);
        x.year();
        return x;
    }

    private void debts() {
        TwoMetals below = Due.laid("r0,2000,0,0,5,5,0;m10,15;");
        due.is("in gold", below.debt(0, 1000, 0), 750);
        due.is("gold is paid", below.debt(0, 1000, 1), 1);
        due.is("cut", below.debt(0, 3, 0), 2);
        due.is("the least", below.debt(0, 1, 0), 0);
        due.is("the greatest", below.debt(0, 100000000, 0), 75000000);
        TwoMetals even = Due.laid("r0,2000,0,0,5,5,0;m10,20;");
        due.is("in silver, even", even.debt(0, 1000, 0), 1000);
        due.is("silver is paid, even", even.debt(0, 1000, 1), 0);
        TwoMetals above = Due.laid("r0,2000,0,0,5,5,0;m0,20;");
        due.is("in silver", above.debt(0, 100000000, 0), 100000000);
        due.is("silver is paid", above.debt(0, 100000000, 1), 0);
        due.is("a limping realm mints", Due.laid("r0,2000,0,0,5,5,0;l0;m10,15;").debt(0, 1000, 0), 750);
    }

    private void debtsWithWrongNumbers() {
        TwoMetals x = withOneThatStopped("m10,15;");
        due.is("does not mint", x.debt(0, 1000, 0), Due.NO);
        due.is("does not mint", x.debt(0, 1000, 1), Due.NO);
        due.is("a wrong debt comes first", x.debt(0, 0, 0), Due.BAD);
        due.is("a wrong what comes first", x.debt(0, 1000, 2), Due.BAD);
        due.is("d = 0", x.debt(1, 0, 0), Due.BAD);
        due.is("d = -1", x.debt(1, -1, 0), Due.BAD);
        due.is("d too great", x.debt(1, 100000001, 0), Due.BAD);
        due.is("what = -1", x.debt(1, 1000, -1), Due.BAD);
        due.is("what = 2", x.debt(1, 1000, 2), Due.BAD);
        for (int n : NO_REALMS) {
            due.is("debt(" + n + ")", x.debt(n, 1000, 0), Due.BAD);
        }
        due.is("debt(-1)", x.debt(-1, 1000, 0), Due.BAD);
    }

    private void pacts() {
        // realm 2 has no metal, so it never moves and never holds
        TwoMetals x = Due.laid("r0,3000,0,0,10,100,0;r1,1000,0,0,10,100,0;r2,2000,0,0,0,0,0;m10,20;");
        due.is("two agree", x.pact(3, 2000, 0), 1);
        due.is("the ratio", x.pact(3, 2000, 1), 2000);
        due.is("one has no metal", x.pact(7, 2000, 0), 0);
        due.is("the ratio all the same", x.pact(7, 2000, 1), 2000);
        due.is("realm 0 is as it was", x.realm(0, 0), 3000);
        due.is("its ends are as they were", x.ends(0, 0), 3000);
        due.is("its gold is as it was", x.realm(0, 3), 10);
        due.is("the market is as it was", x.market(2), 2000);
        // 4000, 3454, 3000, 2615, 2285: four go out, though F is 0 (from 1667 to 2500 nothing moves)
        TwoMetals y = Due.laid("r0,1000,0,200,5,0,0;m10,40;");
        due.is("holds", y.pact(1, 2000, 0), 1);
        due.is("at", y.pact(1, 2000, 1), 2285);
        TwoMetals z = Due.laid("r0,1000,0,200,4,0,0;m10,40;");
        due.is("its last sack went out", z.pact(1, 2000, 0), 0);
        due.is("at the same ratio", z.pact(1, 2000, 1), 2285);
        due.is("the least law", y.pact(1, 1000, 0), 0);
        due.is("the greatest law", y.pact(1, 99999, 1), 4000);
        due.is("the greatest law, no silver", y.pact(1, 99999, 0), 0);
    }

    private void pactsWithWrongNumbers() {
        TwoMetals x = withOneThatStopped("m10,20;");
        due.is("does not mint", x.pact(1, 2000, 0), Due.BAD);
        due.is("one does not mint", x.pact(3, 2000, 0), Due.BAD);
        due.is("mints", x.pact(2, 2000, 0), 1);
        int[] sets = {0, -1, 4, 6, 128, 256, 258, Integer.MIN_VALUE, Integer.MIN_VALUE | 2};
        for (int set : sets) {
            due.is("pact(" + set + ")", x.pact(set, 2000, 0), Due.BAD);
        }
        int[] laws = {999, 100000, 0, -2000, Integer.MIN_VALUE, Integer.MAX_VALUE};
        for (int law : laws) {
            due.is("pact at " + law, x.pact(2, law, 0), Due.BAD);
            due.is("fewest at " + law, x.fewest(law), Due.BAD);
        }
        due.is("what = 2", x.pact(2, 2000, 2), Due.BAD);
        due.is("what = -1", x.pact(2, 2000, -1), Due.BAD);
    }

    private void pactsThatNeverRest() {
        TwoMetals x = Due.laid("r0,1500,0,0,5,100,0;m10,15;");
        due.is("at its own law", x.pact(1, 1500, 0), 1);
        due.is("never rests", x.pact(1, 2000, 0), Due.SPENT);
        due.is("never rests", x.pact(1, 2000, 1), Due.SPENT);
        due.is("does not hold", x.fewest(2000), Due.NONE);
        due.is("wrong numbers come first", x.pact(1, 2000, 2), Due.BAD);
        due.is("nothing changed", x.realm(0, 0), 1500);
    }

    private void fewestRealms() {
        String idle = "r0,2000,0,0,0,0,0;";
        due.is("no realm", new TwoMetals().fewest(2000), Due.NONE);
        due.is("none that can hold", Due.laid(idle + "m10,20;").fewest(2000), Due.NONE);
        due.is("realm 7 alone", Due.laid(idle + "r7,2000,0,0,1,2,0;m10,20;").fewest(2000), 128);
        due.is("the least bits", Due.laid(idle + "r6,2000,0,0,1,2,0;r5,2000,0,0,1,2,0;m10,20;").fewest(2000), 32);
        due.is("one that does not mint", withOneThatStopped("m10,20;").fewest(2000), 2);
        // alone, realm 0 loses its one sack of gold to realm 1, and realm 1 its silver to realm 0
        TwoMetals x = Due.laid("r0,1000,0,200,1,2,0;r1,3000,0,200,1,3,0;m5,10;");
        due.is("realm 0 alone", x.pact(1, 2000, 0), 0);
        due.is("realm 1 alone", x.pact(2, 2000, 0), 0);
        due.is("both", x.pact(3, 2000, 0), 1);
        due.is("so both", x.fewest(2000), 3);
        due.is("all is as it was", x.realm(0, 0) + x.realm(1, 0), 4000);
        // realm 7 holds from 835 to 3748, whatever the two do: one, though of more bits, is fewer than two
        TwoMetals y = Due.laid("r0,1000,0,200,1,2,0;r1,3000,0,200,1,3,0;r7,2000,999,200,1,3,0;m5,10;");
        due.is("two hold", y.pact(3, 2000, 0), 1);
        due.is("one holds", y.pact(128, 2000, 0), 1);
        due.is("so one", y.fewest(2000), 128);
        due.is("realm 0", Due.laid("r0,3000,0,0,1,2,0;m10,20;").fewest(2000), 1);
        // any that stays outside takes a sack from the market, and one inside loses its last for it
        StringBuilder eight = new StringBuilder("m5,10;");
        for (int n = 0; n < 8; n++) {
            eight.append('r').append(n).append(",3000,0,200,1,3,0;");
        }
        due.is("all eight", Due.laid(eight.toString()).fewest(2000), 255);
    }

    private void buying() {
        // its ends: 1667 and 2500
        TwoMetals x = Due.laid("r0,2000,0,200,3,100,0;m10,20;");
        int[] ratio = {2000, 2222, 2500, 2250, 2000, 2285, 2000, 2333, 2800, 3500, 4666};
        int[] gold = {3, 3, 3, 2, 1, 1, 0, 0, 0, 0, 0};
        for (int n = 0; n <= 10; n++) {
            due.is("bought(" + n + ", -1)", x.bought(n, -1), ratio[n]);
            due.is("bought(" + n + ", 0)", x.bought(n, 0), gold[n]);
        }
        due.is("more than there is", x.bought(11, -1), Due.BAD);
        due.is("fewer than none", x.bought(-1, -1), Due.BAD);
        due.is("the most", x.bought(Integer.MAX_VALUE, 0), Due.BAD);
        for (int n : NO_REALMS) {
            due.is("bought(1, " + n + ")", x.bought(1, n), Due.BAD);
        }
        due.is("all is as it was", x.market(0), 10);
        due.is("all is as it was", x.realm(0, 3), 3);
        TwoMetals y = Due.laid("r0,2000,0,0,3,100,0;m10,20;");
        due.is("never rests", y.bought(5, -1), Due.SPENT);
        due.is("never rests", y.bought(5, 0), Due.SPENT);
        due.is("wrong numbers come first", y.bought(5, 1), Due.BAD);
        due.is("nothing to buy", new TwoMetals().bought(0, -1), 1000000);
        due.is("more than nothing", new TwoMetals().bought(1, -1), Due.BAD);
    }

    private void cornering() {
        int[] wanted = {0, 4, 4, 8, 8, 10, Due.NONE};
        for (int gold = 0; gold < wanted.length; gold++) {
            TwoMetals x = Due.laid("r0,2000,0,200," + gold + ",100,0;m10,20;");
            due.is("corner of " + gold, x.corner(0), wanted[gold]);
            due.is("all is as it was", x.market(0), 10);
        }
        due.is("one is enough", Due.laid("r0,2000,0,200,1,0,0;m4,10;").corner(0), 1);
        due.is("two are enough", Due.laid("r0,2000,0,200,2,0,0;m8,20;").corner(0), 2);
        // with two bought it never rests, so these are passed over
        due.is("all is a power of two", Due.laid("r0,2000,0,200,2,0,0;m4,10;").corner(0), 4);
        due.is("nothing to buy, none gone", Due.laid("r0,2000,0,200,2,0,0;m0,1;").corner(0), Due.NONE);
        due.is("nothing to buy, all gone", Due.laid("r0,2000,0,200,2,0,0;m0,9;").corner(0), 0);
        TwoMetals x = withOneThatStopped("m10,20;");
        due.is("does not mint", x.corner(0), Due.NO);
        due.is("no such realm", x.corner(-1), Due.BAD);
        for (int n : NO_REALMS) {
            due.is("corner(" + n + ")", x.corner(n), Due.BAD);
        }
    }

    private void moving() {
        TwoMetals x = withOneThatStopped("m10,20;");
        due.is("move", x.move(1, 1000), 2000);
        due.is("its law", x.realm(1, 0), 1000);
        due.is("it moves by it", x.moves(1), 1);
        due.is("move again", x.move(1, 99999), 1000);
        due.is("it moves by it", x.moves(1), 2);
        due.is("one that does not mint", x.move(0, 1234), 2000);
        due.is("its law", x.realm(0, 0), 1234);
        int[] laws = {999, 100000, 0, -1, Integer.MIN_VALUE, Integer.MAX_VALUE};
        for (int law : laws) {
            due.is("move to " + law, x.move(1, law), Due.BAD);
        }
        for (int n : NO_REALMS) {
            due.is("move of " + n, x.move(n, 1000), Due.BAD);
        }
        due.is("nothing changed", x.realm(1, 0), 99999);
        x.year();
        due.is("for good", x.realm(1, 0), 99999);
        x.lay();
        due.is("till it is laid again", x.realm(1, 0), 2000);
    }

    private void melting() {
        TwoMetals x = Due.laid("r0,1999,999,200,0,0,0;r1,2000,0,0,5,5,0;r2,2001,0,0,5,5,0;r7,1000,0,0,0,0,0;s7,0;m10,20;");
        due.is("melted", x.melted(), 129);
        x.year();
        due.is("one that does not mint, too", x.melted(), 129);
        x.move(2, 1999);
        due.is("by another law", x.melted(), 133);
        due.is("no realm", new TwoMetals().melted(), 0);
    }

    private void keeping() {
        TwoMetals x = Due.laid("r0,2000,0,0,5,100,0;s0,5;m10,20;g0,1,0;");
        due.is("back with none", x.back(), Due.NO);
        due.is("keep", x.keep(), 1);
        x.move(0, 3000);
        x.year();
        due.is("keep", x.keep(), 2);
        due.is("keep", x.keep(), Due.FULL);
        due.is("still two", x.count(4), 2);
        x.move(0, 4000);
        x.year();
        x.wipe();
        due.is("the year", x.market(3), 2);
        due.is("back", x.back(), 1);
        due.is("the year of the last", x.market(3), 1);
        due.is("its gold", x.market(0), 11);
        due.is("its ratio", x.market(2), 1818);
        due.is("its law", x.realm(0, 0), 3000);
        due.is("its ends", x.ends(0, 0), 3000);
        due.is("it does not mint", x.realm(0, 6), 0);
        due.is("keep once more", x.keep(), 2);
        due.is("back", x.back(), 1);
        due.is("back", x.back(), 0);
        due.is("the year of the first", x.market(3), 0);
        due.is("its gold", x.market(0), 10);
        due.is("its law", x.realm(0, 0), 2000);
        due.is("it mints", x.realm(0, 6), 1);
        due.is("the text is not kept", x.count(1), 0);
        due.is("back with none", x.back(), Due.NO);
        x.year();
        due.is("its mines", x.market(0), 11);
        due.is("it stops again", x.realm(0, 6), 0);
    }

    private void counting() {
        TwoMetals x = withOneThatStopped("m10,20;");
        x.keep();
        due.is("realms", x.count(0), 2);
        due.is("bytes", x.count(1), 20 + 5 + 20 + 7);
        due.is("realms that mint", x.count(2), 1);
        due.is("sacks of gold", x.count(3), 20);
        due.is("kept", x.count(4), 1);
        due.is("count(-1)", x.count(-1), Due.BAD);
        due.is("count(5)", x.count(5), Due.BAD);
        due.is("count(least)", x.count(Integer.MIN_VALUE), Due.BAD);
        x.back();
        due.is("none kept", x.count(4), 0);
    }
}
