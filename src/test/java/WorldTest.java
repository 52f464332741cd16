/** Promises 6 to 10: realm, market, moves, ends, held. */
public final class WorldTest {
    // its ends: 1000 * 1900 / 1050 = 1809.5.., 1000 * 2100 / 950 = 2210.5..
    private static final String REALM = "r4,2000,100,50,5,100,3;";

    private final Due due = new Due("world");

    public static void main(String[] args) {
        WorldTest test = new WorldTest();
        test.whatARealmTells();
        test.whatTheMarketTells();
        test.theRatio();
        test.theEnds();
        test.movesAtTheEnds();
        test.movesThatLackSomething();
        test.heldAtTheEnds();
        test.heldNeedsBothMetals();
        test.wrongNumbers();
        test.due.finish();
    }

    private void whatARealmTells() {
        TwoMetals x = Due.laid("r7,99999,999,200,9999,9998,997;" + REALM + "l7;");
        long[] seven = {99999, 999, 200, 9999, 9998000, 997, 1, 1};
        long[] four = {2000, 100, 50, 5, 100000, 3, 1, 0};
        for (int what = 0; what < 8; what++) {
            due.is("realm(7, " + what + ")", x.realm(7, what), seven[what]);
            due.is("realm(4, " + what + ")", x.realm(4, what), four[what]);
        }
    }

    private void whatTheMarketTells() {
        TwoMetals x = Due.laid("m7,99999;k1;");
        due.is("gold", x.market(0), 7);
        due.is("silver", x.market(1), 99999000);
        // 1 * 99999000 / 7000 = 14285.5..
        due.is("ratio", x.market(2), 14285);
        due.is("year", x.market(3), 0);
        Due.years(x, 150);
        due.is("year", x.market(3), 150);
    }

    private void theRatio() {
        due.is("cut", Due.laid("m3,5;").market(2), 1666);
        due.is("no silver", Due.laid("m3,0;").market(2), 0);
        due.is("no gold", Due.laid("m0,5;").market(2), 1000000);
        due.is("no metal", Due.laid("m0,0;k1;").market(2), 1000000);
        due.is("at most", Due.laid("m1,99999;k9999;").market(2), 1000000);
        due.is("the most itself", Due.laid("m1,1000;").market(2), 1000000);
        due.is("one below", Due.laid("m1000,1000;k9999;").market(2), 9999);
        due.is("just below the most", Due.laid("m1,999;").market(2), 999000);
        due.is("scarce", Due.laid("m3,5;k9999;").market(2), 16665);
        due.is("plenty", Due.laid("m3,5;k1;").market(2), 1);
    }

    private void theEnds() {
        TwoMetals x = Due.laid(REALM + "r0,1000,999,200,0,0,0;r1,99999,999,200,0,0,0;r2,1500,0,0,0,0,0;l2;r3,2100,0,50,0,0,0;"
            + "r5,1900,0,50,0,0,0;");
        due.is("ends(4, 0)", x.ends(4, 0), 1810);
        due.is("ends(4, 1)", x.ends(4, 1), 2210);
        due.is("ends(0, 0)", x.ends(0, 0), 1);
        due.is("ends(0, 1)", x.ends(0, 1), 2498);
        due.is("ends(1, 0)", x.ends(1, 0), 82500);
        due.is("ends(1, 1)", x.ends(1, 1), 126247);
        due.is("ends(2, 0)", x.ends(2, 0), 1500);
        due.is("ends(2, 1), though it limps", x.ends(2, 1), 1500);
        due.is("ends(3, 0), without a rest", x.ends(3, 0), 2000);
        due.is("ends(5, 1), without a rest", x.ends(5, 1), 2000);
        // 1000000 by 1001 is 999 and a thousandth
        due.is("the least is not cut", Due.laid("r0,1000,0,1,0,0,0;").ends(0, 0), 1000);
        x.move(4, 4000);
        due.is("ends(4, 0) of another law", x.ends(4, 0), 3715);
        due.is("ends(4, 1) of another law", x.ends(4, 1), 4315);
    }

    private static int movesAt(String realm, int gold, int silver) {
        return Due.laid(realm + "m" + gold + "," + silver + ";").moves(4);
    }

    private void movesAtTheEnds() {
        due.is("below the least", movesAt(REALM, 1000, 1809), 2);
        due.is("at the least", movesAt(REALM, 1000, 1810), 0);
        due.is("between", movesAt(REALM, 1000, 2000), 0);
        due.is("at the greatest", movesAt(REALM, 1000, 2210), 0);
        due.is("above the greatest", movesAt(REALM, 1000, 2211), 1);
    }

    private void movesThatLackSomething() {
        due.is("no gold to go out", movesAt("r4,2000,0,0,0,100,3;", 10, 90), 0);
        due.is("a limping realm lets none out", movesAt(REALM + "l4;", 10, 90), 0);
        due.is("a limping realm lets some in", movesAt(REALM + "l4;", 10, 10), 2);
        due.is("too little silver on the market", movesAt(REALM, 0, 1), 0);
        due.is("just enough silver on the market", movesAt(REALM, 0, 2), 1);
        due.is("the market's last gold", movesAt(REALM, 1, 1), 2);
        due.is("no gold on the market", movesAt("r4,2000,0,0,0,100,3;", 0, 0), 0);
        due.is("too little silver in the realm", movesAt("r4,2000,0,0,5,1,3;", 10, 10), 0);
        due.is("just enough silver in the realm", movesAt("r4,2000,0,0,5,2,3;", 10, 10), 2);
        due.is("the year's measure does not count", movesAt("r4,2000,0,0,5,100,0;", 10, 90), 1);
        TwoMetals x = Due.laid("r4,2000,0,0,5,100,0;s4,5;m10,90;");
        due.is("it mints", x.moves(4), 1);
        x.year();
        due.is("it mints no more", x.moves(4), 0);
        TwoMetals y = Due.laid("r4,2000,0,0,5,100,0;s4,5;m10,10;");
        due.is("it mints", y.moves(4), 2);
        y.year();
        due.is("it mints no more", y.moves(4), 0);
    }

    private static int heldAt(String realm, int gold, int silver) {
        return Due.laid(realm + "m" + gold + "," + silver + ";").held();
    }

    private void heldAtTheEnds() {
        due.is("below the least", heldAt(REALM, 1000, 1809), 0);
        due.is("at the least", heldAt(REALM, 1000, 1810), 16);
        due.is("at the greatest", heldAt(REALM, 1000, 2210), 16);
        due.is("above the greatest", heldAt(REALM, 1000, 2211), 0);
        due.is("by two", heldAt(REALM + "r0,2000,0,0,1,2,0;r1,2001,0,0,1,3,0;", 10, 20), 17);
    }

    private void heldNeedsBothMetals() {
        due.is("no gold", heldAt("r4,2000,0,0,0,100,3;", 10, 20), 0);
        due.is("one of gold", heldAt("r4,2000,0,0,1,100,3;", 10, 20), 16);
        due.is("too little silver", heldAt("r4,2000,0,0,1,1,3;", 10, 20), 0);
        due.is("just enough silver", heldAt("r4,2000,0,0,1,2,3;", 10, 20), 16);
        due.is("a limping one holds too", heldAt("r4,2000,0,0,1,2,3;l4;", 10, 20), 16);
        TwoMetals x = Due.laid("r4,2000,0,0,1,2,3;s4,1;m10,20;");
        due.is("it mints", x.held(), 16);
        x.year();
        due.is("it mints no more", x.held(), 0);
    }

    private void wrongNumbers() {
        TwoMetals x = Due.laid(REALM);
        int[] realms = {-1, 0, 3, 5, 7, 8, 32, 36, 100, Integer.MIN_VALUE, Integer.MAX_VALUE};
        for (int n : realms) {
            due.is("realm(" + n + ")", x.realm(n, 0), Due.BAD);
            due.is("moves(" + n + ")", x.moves(n), Due.BAD);
            due.is("ends(" + n + ")", x.ends(n, 0), Due.BAD);
        }
        int[] whats = {-1, 8, Integer.MIN_VALUE, Integer.MAX_VALUE};
        for (int what : whats) {
            due.is("realm(4, " + what + ")", x.realm(4, what), Due.BAD);
            due.is("market(" + what + ")", x.market(what), Due.BAD);
            due.is("ends(4, " + what + ")", x.ends(4, what), Due.BAD);
        }
        due.is("market(4)", x.market(4), Due.BAD);
        due.is("ends(4, 2)", x.ends(4, 2), Due.BAD);
    }
}
