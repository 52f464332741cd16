/** The edges that the document names where it tells of the market, of sacks that move and of years, sentence by sentence. */
public final class WorldSentencesTest {
    private final Sentences doc = new Sentences("sentences of worlds");

    public static void main(String[] args) {
        WorldSentencesTest test = new WorldSentencesTest();
        test.silverInThousandths();
        test.theRatio();
        test.theRatioOfGreatHeaps();
        test.limpingRealms();
        test.goingOut();
        test.goingOutGains();
        test.comingIn();
        test.comingInGains();
        test.minesOfThatYear();
        test.realmsByNumbers();
        test.yearlySacks();
        test.roundsTillNoneMoves();
        test.stopping();
        test.restOfTwoHundredThousand();
        test.restCountsAllSacks();
        test.restIsNoYear();
        test.theEnds();
        test.theEndsAlone();
        test.holding();
        test.lookingAhead();
        test.goneFirst();
        test.goneAtAYearsEnd();
        test.stoppedFirst();
        test.freeFirst();
        test.doc.finish();
    }

    private void silverInThousandths() {
        doc.terms("Silver is counted in thousandths of SACKS");
        TwoMetals x = Due.laid("r4,1001,0,0,1,9999,1;m0,2;");
        doc.is("realm's", x.realm(4, 4), 9999000);
        doc.is("market's", x.market(1), 2000);
        x.year();
        doc.is("a sack went out: realm's", x.realm(4, 4), 10000001);
        doc.is("a sack went out: market's", x.market(1), 999);
        TwoMetals y = Due.laid("g0,0,9999;m0,99999;");
        Due.years(y, 400);
        doc.is("more than an int can tell", y.market(1), 4099599000L);
    }

    private void ratioIs(String text, long ratio) {
        doc.is("ratio by '" + text + "'", Due.laid(text).market(2), ratio);
    }

    private void theRatio() {
        doc.terms("cut; 1000000 at most, so it is without gold");
        ratioIs("m3,5;", 1666);
        ratioIs("m2001,2;", 0);
        ratioIs("m2000,2;", 1);
        ratioIs("m99999,99999;k1;", 1);
        ratioIs("m99999,99998;k1;", 0);
        ratioIs("m5,0;", 0);
        ratioIs("m101,10101;k9999;", 999999);
        ratioIs("m1,1000;", 1000000);
        ratioIs("m99,9901;k9999;", 1000000);
        ratioIs("m1,99999;k9999;", 1000000);
        ratioIs("m0,0;", 1000000);
        ratioIs("m0,1;k1;", 1000000);
        ratioIs("", 1000000);
    }

    private void theRatioOfGreatHeaps() {
        doc.terms("K times the silver on THE MARKET (in thousandths) by (1000 times its gold)");
        ratioIs("m99999,99999;k9999;", 9999);
        ratioIs("m99998,99999;k9999;", 9999);
        ratioIs("m99989,99999;k9999;", 10000);
        TwoMetals x = Due.laid("m99999,99999;g0,9999,9999;k9999;");
        Due.years(x, 450);
        doc.is("gold", x.market(0), 4599549);
        doc.is("silver", x.market(1), 4599549000L);
        doc.is("ratio", x.market(2), 9999);
        TwoMetals y = Due.laid("m99999,0;g0,9999,1;k9999;");
        Due.years(y, 450);
        doc.is("ratio of much gold", y.market(2), 0);
    }

    /** Realm 4, whose F is 1, moves one sack so (1 out, 2 in, 0 none), by moves as by year. */
    private void moves(String text, int heading) {
        TwoMetals x = Due.laid(text);
        long law = x.realm(4, 0);
        long[] was = {x.realm(4, 3), x.realm(4, 4), x.market(0), x.market(1)};
        int sacks = heading == 1 ? 1 : heading == 2 ? -1 : 0;
        doc.is("moves by '" + text + "'", x.moves(4), heading);
        doc.is("year by '" + text + "'", x.year(), heading == 0 ? 0 : 1);
        doc.is("realm's gold by '" + text + "'", x.realm(4, 3), was[0] - sacks);
        doc.is("realm's silver by '" + text + "'", x.realm(4, 4), was[1] + sacks * law);
        doc.is("market's gold by '" + text + "'", x.market(0), was[2] + sacks);
        doc.is("market's silver by '" + text + "'", x.market(1), was[3] - sacks * law);
        if (heading == 0) {
            doc.is("rest by '" + text + "'", x.rest(), 0);
        }
    }

    private void limpingRealms() {
        doc.terms("no silver is minted: nothing goes OUT of it");
        moves("r4,2000,0,0,5,100,1;m10,90;", 1);
        moves("r4,2000,0,0,5,100,1;l4;m10,90;", 0);
        moves("r4,2000,0,0,5,100,1;r3,2000,0,0,0,0,1;l3;m10,90;", 1);
        moves("r4,2000,0,0,5,100,1;l4;m10,10;", 2);
    }

    private void hasStopped(String text, int heading) {
        TwoMetals x = Due.laid(text);
        doc.is("it mints", x.moves(4), heading);
        x.year();
        doc.is("it mints no more", x.moves(4), 0);
        doc.is("a year moves none", x.year(), 0);
        doc.is("rest moves none", x.rest(), 0);
    }

    private void goingOut() {
        doc.terms("if it mints, does not LIMP, has gold, there is R of silver on THE MARKET");
        hasStopped("r4,2000,0,0,5,100,1;s4,9;m10,90;", 1);
        moves("r4,2000,0,0,0,100,1;m10,90;", 0);
        moves("r4,2000,0,0,1,100,1;m10,90;", 1);
        moves("r4,2000,0,0,5,0,1;m10,90;", 1);
        moves("r4,2000,0,0,5,100,1;m0,2;", 1);
        moves("r4,2000,0,0,5,100,1;m0,1;", 0);
        moves("r4,2001,0,0,5,100,1;m0,2;", 0);
        moves("r4,1999,0,0,5,100,1;m0,2;", 1);
        moves("r4,1000,0,0,5,100,1;m0,0;", 0);
        moves("r4,99999,0,0,5,100,1;m0,99;", 0);
        moves("r4,99999,0,0,5,100,1;m0,100;", 1);
    }

    private void goingOutGains() {
        doc.terms("THE RATIO times (1000 less W) is above 1000 times (R and C)");
        moves("r4,2000,0,0,5,100,1;m1000,2000;", 0);
        moves("r4,2000,0,0,5,100,1;m1000,2001;", 1);
        moves("r4,1900,100,0,5,100,1;m1000,2000;", 0);
        moves("r4,1900,100,0,5,100,1;m1000,2001;", 1);
        moves("r4,1500,100,200,5,100,1;m1000,2000;", 0);
        moves("r4,1500,100,200,5,100,1;m1000,2001;", 1);
        moves("r4,1000,999,0,5,100,1;m1000,1999;", 0);
        moves("r4,1000,999,0,5,100,1;m1000,2000;", 1);
        // 800 times 126250 is 101000000, 800 times 126000 is 100800000, and 1000 times 100998 lies between
        moves("r4,99999,999,200,5,100,1;m8,1008;", 0);
        moves("r4,99999,999,200,5,100,1;m8,1010;", 1);
    }

    private void comingIn() {
        doc.terms("if it mints, there is gold on THE MARKET, it has R of silver");
        hasStopped("r4,2000,0,0,5,100,1;s4,9;m10,10;", 2);
        moves("r4,2000,0,0,0,100,1;m1,1;", 2);
        moves("r4,2000,0,0,0,100,1;m0,1;", 0);
        moves("r4,2000,0,0,0,100,1;m0,0;", 0);
        moves("r4,2000,0,0,5,2,1;m10,10;", 2);
        moves("r4,2000,0,0,5,1,1;m10,10;", 0);
        moves("r4,2001,0,0,5,2,1;m10,10;", 0);
        moves("r4,1999,0,0,5,2,1;m10,10;", 2);
        moves("r4,2000,0,0,5,0,1;m10,10;", 0);
        TwoMetals x = Due.laid("r4,2000,0,0,0,100,1;m1,1;");
        x.year();
        doc.is("the ratio when the last gold has come in", x.market(2), 1000000);
    }

    private void comingInGains() {
        doc.terms("THE RATIO times (1000 and W) is below 1000 times (R less C; 0 at least)");
        moves("r4,2000,0,0,5,100,1;m1000,2000;", 0);
        moves("r4,2000,0,0,5,100,1;m1000,1999;", 2);
        moves("r4,2000,200,0,5,100,1;m1000,1800;", 0);
        moves("r4,2000,200,0,5,100,1;m1000,1799;", 2);
        moves("r4,1900,100,200,5,100,1;m1000,1500;", 0);
        moves("r4,1900,100,200,5,100,1;m1000,1499;", 2);
        moves("r4,1000,999,0,5,100,1;m1000,0;", 2);
        moves("r4,1000,999,200,5,100,1;m1000,0;", 2);
        moves("r4,1000,999,0,5,100,1;m1000,1;", 0);
        // 1200 times 82500 is 1000 times 99000
        moves("r4,99999,999,200,5,100,1;m1000,82500;", 0);
        moves("r4,99999,999,200,5,100,1;m1000,82499;", 2);
    }

    private void minesOfThatYear() {
        doc.terms("A YEAR: mines bring theirs (those of that YEAR); then ROUND by ROUND");
        // 2000 at first: no sack moves till the mines of year 1 bring silver
        TwoMetals x = Due.laid("r4,2000,0,0,5,0,1;m10,20;g1,0,10;g2,30,0;");
        doc.is("year 0", x.year(), 0);
        doc.is("ratio", x.market(2), 2000);
        doc.is("year 1: one goes out", x.year(), 1);
        doc.is("gold", x.realm(4, 3), 4);
        doc.is("ratio", x.market(2), 2545);
        doc.is("year 2: one comes in", x.year(), 1);
        doc.is("gold", x.realm(4, 3), 5);
        doc.is("ratio", x.market(2), 750);
    }

    private void realmsByNumbers() {
        doc.terms("ROUND by ROUND each REALM, by numbers, one SACK that goes OUT or comes IN");
        // realm 0, told last, goes first: 5000, 1500; realm 7: 666; realm 0 takes one in: 2000
        TwoMetals x = Due.laid("r7,1000,0,0,1,0,9;r0,2000,0,0,1,0,9;m1,5;");
        doc.is("year", x.year(), 3);
        doc.is("realm 0's gold", x.realm(0, 3), 1);
        doc.is("realm 7's gold", x.realm(7, 3), 0);
        doc.is("ratio", x.market(2), 2000);
        // 22 go out till the ratio is 1217 (1250 is their end): 8, 7 and 7 when each moves one a round
        TwoMetals y = Due.laid("r0,1000,0,200,9,0,9;r1,1000,0,200,9,0,9;r2,1000,0,200,9,0,9;m1,50;");
        doc.is("year", y.year(), 22);
        doc.is("realm 0's gold", y.realm(0, 3), 1);
        doc.is("realm 1's gold", y.realm(1, 3), 2);
        doc.is("realm 2's gold", y.realm(2, 3), 2);
    }

    private void yearlySacks() {
        doc.terms("if it has not moved F this YEAR");
        // 1500: in 1888, in 2375, out 1888, in 2375, ..
        long[] gold = {5, 6, 7, 6, 7, 6};
        for (int f = 0; f < gold.length; f++) {
            TwoMetals x = Due.laid("r0,2000,0,0,5,100," + f + ";m10,15;");
            doc.is("year of " + f, x.year(), f);
            doc.is("gold of " + f, x.realm(0, 3), gold[f]);
        }
        TwoMetals y = Due.laid("r0,1000,0,0,9,0,1;r1,1000,0,0,9,0,3;r2,1000,0,0,9,0,0;m1,99999;");
        doc.is("each has its own measure", y.year(), 4);
        doc.is("of 1", y.realm(0, 3), 8);
        doc.is("of 3", y.realm(1, 3), 6);
        doc.is("of 0", y.realm(2, 3), 9);
        doc.is("the next year once more", y.year(), 4);
        doc.is("of 3", y.realm(1, 3), 3);
    }

    private void roundsTillNoneMoves() {
        doc.terms("till in a ROUND none moves");
        // realm 0 has nothing to move till realm 1 has brought the ratio down: 5000, 2000, 1000, 2500 (realm 0), 1333
        TwoMetals x = Due.laid("r0,2000,0,0,0,2,9;r1,1000,0,0,9,0,3;m1,5;");
        doc.is("year", x.year(), 4);
        doc.is("realm 0's gold", x.realm(0, 3), 1);
        doc.is("realm 0's silver", x.realm(0, 4), 0);
        doc.is("realm 1's gold", x.realm(1, 3), 6);
        doc.is("ratio", x.market(2), 1333);
        doc.is("none at once", Due.laid("r0,2000,0,0,5,100,9;m10,20;").year(), 0);
        doc.is("none is there", Due.laid("m10,20;").year(), 0);
    }

    private void stopping() {
        doc.terms("then each that STOPS mints no more; the next YEAR");
        // each moves its sacks in the year at whose end it stops
        TwoMetals x = Due.laid("r0,1000,0,0,5,0,2;s0,3;r1,1000,0,0,5,0,1;s1,3;r2,1000,0,0,3,0,0;s2,3;r3,1000,0,0,3,0,0;m1,99;");
        doc.is("year", x.year(), 3);
        doc.is("3 of 5 left", x.realm(0, 6), 0);
        doc.is("4 of 5 left", x.realm(1, 6), 1);
        doc.is("3 of 3 left", x.realm(2, 6), 0);
        doc.is("without a word", x.realm(3, 6), 1);
        doc.is("the next year", x.market(3), 1);
        doc.is("one is left that moves", x.year(), 1);
        doc.is("it stops, too", x.realm(1, 6), 0);
        doc.is("none moves", x.year(), 0);
        doc.is("the next year", x.market(3), 3);
        // it was under its measure at first and in between, but not at the end
        TwoMetals y = Due.laid("r0,2000,0,0,3,100,2;s0,4;m10,10;");
        y.year();
        doc.is("5 at the end", y.realm(0, 3), 5);
        doc.is("so it mints", y.realm(0, 6), 1);
    }

    /** Realm 0 has sold gold dear and may now buy as many sacks as it has of silver: 199998 and these. */
    private static TwoMetals richIn(int silver) {
        TwoMetals x = Due.laid("r0,99999,0,0,2000," + silver + ",0;m0,99999;g0,0,9999;g35,9999,0;");
        Due.years(x, 35);
        x.rest();
        Due.years(x, 70);
        x.move(0, 1000);
        return x;
    }

    private void restOfTwoHundredThousand() {
        doc.terms("for 200000 SACKS at most (not so: SPENT)");
        TwoMetals x = richIn(1);
        doc.is("199999", x.rest(), 199999);
        doc.is("all is spent", x.realm(0, 4), 0);
        TwoMetals y = richIn(2);
        doc.is("200000, the ratio", y.pact(1, 1000, 1), 896);
        doc.is("200000, bought", y.bought(0, 0), 200000);
        doc.is("200000", y.rest(), 200000);
        doc.is("the gold", y.realm(0, 3), 200000);
        doc.is("once more", y.rest(), 0);
        TwoMetals z = richIn(3);
        String before = Sentences.stateOf(z);
        doc.is("200001", z.rest(), Due.SPENT);
        doc.is("200001, the ratio", z.pact(1, 1000, 1), Due.SPENT);
        doc.is("200001, whether it holds", z.pact(1, 1000, 0), Due.SPENT);
        doc.is("200001, bought", z.bought(0, 0), Due.SPENT);
        doc.is("200001, bought", z.bought(0, -1), Due.SPENT);
        doc.unchanged(z, before);
    }

    /** Two realms that may buy 99999 sacks each, and these. */
    private static TwoMetals bothRichIn(int silver, int ofTheOther) {
        TwoMetals x = Due.laid("r0,99999,0,0,1000," + silver + ",0;r7,99999,0,0,1000," + ofTheOther
            + ",0;m0,99999;g0,0,9999;g35,9999,0;");
        Due.years(x, 35);
        x.rest();
        Due.years(x, 70);
        x.move(0, 1000);
        x.move(7, 1000);
        return x;
    }

    private void restCountsAllSacks() {
        doc.terms("for 200000 SACKS at most (not so: SPENT)");
        doc.is("100000 and 100000", bothRichIn(1, 1).rest(), 200000);
        doc.is("100001 and 100000", bothRichIn(2, 1).rest(), Due.SPENT);
        doc.is("100000 and 100001", bothRichIn(1, 2).rest(), Due.SPENT);
        doc.is("100001 and 99999", bothRichIn(2, 0).rest(), 200000);
    }

    private void restIsNoYear() {
        doc.terms("REST: ROUNDS likewise, without mines and without F, from how things are");
        TwoMetals x = Due.laid("r0,1000,0,0,3,0,0;s0,9;r1,1000,0,0,5,0,1;m1,99;g0,7,7;");
        doc.is("rest", x.rest(), 8);
        doc.is("gold", x.realm(0, 3) + x.realm(1, 3), 0);
        doc.is("market's gold", x.market(0), 9);
        doc.is("market's silver", x.market(1), 91000);
        doc.is("the year", x.market(3), 0);
        doc.terms("none STOPS");
        doc.is("it mints", x.realm(0, 6), 1);
        x.year();
        doc.is("but at a year's end", x.realm(0, 6), 0);
    }

    private void endsAre(String lawCutAndWay, long least, long greatest) {
        TwoMetals x = Due.laid("r4," + lawCutAndWay + ",9,9,9;");
        doc.is("least of " + lawCutAndWay, x.ends(4, 0), least);
        doc.is("greatest of " + lawCutAndWay, x.ends(4, 1), greatest);
    }

    private void theEnds() {
        doc.terms("the least RATIO at which nothing would come IN, the greatest (to 1000000) at which nothing would go OUT");
        endsAre("1000,0,0", 1000, 1000);
        endsAre("1000,999,0", 1, 1999);
        endsAre("1000,999,200", 1, 2498);
        endsAre("1000,0,200", 834, 1250);
        endsAre("1200,0,200", 1000, 1500);
        endsAre("99999,0,0", 99999, 99999);
        endsAre("99999,999,200", 82500, 126247);
        endsAre("1000,0,1", 1000, 1001);
        endsAre("1001,0,1", 1000, 1002);
    }

    private void theEndsAlone() {
        doc.terms("(by its R, C, W alone)");
        String[] worlds = {
            "r4,2000,100,50,0,0,0;", "r4,2000,100,50,9999,9999,999;", "r4,2000,100,50,5,5,5;l4;", "r4,2000,100,50,5,5,5;m9,1;k7;",
            "r4,2000,100,50,0,9,0;s4,0;", "r4,2000,100,50,9,0,0;s4,99;m1,99;"
        };
        for (String world : worlds) {
            TwoMetals x = Due.laid(world);
            for (int year = 0; year < 2; year++) {
                doc.is("least by " + world, x.ends(4, 0), 1810);
                doc.is("greatest by " + world, x.ends(4, 1), 2210);
                x.year();
            }
        }
        TwoMetals y = Due.laid("r4,1000,100,50,0,0,0;");
        y.move(4, 2000);
        doc.is("least of a law that was moved", y.ends(4, 0), 1810);
        doc.is("greatest of a law that was moved", y.ends(4, 1), 2210);
    }

    private void heldIs(String text, int bits) {
        doc.is("held by '" + text + "'", Due.laid(text).held(), bits);
    }

    private void holding() {
        doc.terms("if it lies from the one to the other and both its metals are there (gold 1 or more, silver R or more)");
        heldIs("r4,2000,100,50,1,2,0;m1000,1809;", 0);
        heldIs("r4,2000,100,50,1,2,0;m1000,1810;", 16);
        heldIs("r4,2000,100,50,1,2,0;m1000,2210;", 16);
        heldIs("r4,2000,100,50,1,2,0;m1000,2211;", 0);
        heldIs("r4,2000,100,50,0,2,0;m1000,2000;", 0);
        heldIs("r4,2000,100,50,1,1,0;m1000,2000;", 0);
        heldIs("r4,2001,100,50,1,2,0;m1000,2000;", 0);
        heldIs("r4,1999,100,50,1,2,0;m1000,2000;", 16);
        heldIs("r4,2000,100,50,9999,9999,0;l4;m1000,2000;", 16);
        TwoMetals x = Due.laid("r4,2000,100,50,1,2,0;s4,1;r5,2000,0,0,1,2,0;m1000,2000;");
        doc.is("both mint", x.held(), 48);
        x.year();
        doc.is("one mints", x.held(), 32);
    }

    private void lookingAhead() {
        doc.terms("Looked AHEAD n YEARS (1 to 100; all is as it was then)");
        TwoMetals x = Due.laid("r0,1000,0,0,5,0,2;s0,1;r1,1000,0,0,9,0,1;s1,0;m1,99;g1,3,3;");
        x.year();
        String before = Sentences.stateOf(x);
        int[] spans = {1, 2, 100};
        for (int n : spans) {
            x.gone(0, 0, n);
            x.gone(1, 1, n);
            x.stopped(0, n);
            x.stopped(1, n);
            x.free(n);
            x.ahead(n);
        }
        doc.unchanged(x, before);
        int[] wrong = {0, 101, -1, -100, 357, Integer.MIN_VALUE, Integer.MAX_VALUE};
        for (int n : wrong) {
            doc.bad("gone within " + n, x.gone(0, 0, n));
            doc.bad("stopped within " + n, x.stopped(0, n));
            doc.bad("free within " + n, x.free(n));
            doc.bad("ahead " + n, x.ahead(n));
        }
        doc.unchanged(x, before);
        TwoMetals y = Due.laid("m10,20;g99,10,0;g0,0,0;");
        doc.is("99 years ahead", y.ahead(99), 2000);
        doc.is("100 years ahead", y.ahead(100), 1000);
        // with the gold of both 19000 by 7 would be 2714, but realm 0 stops when one is gone
        TwoMetals z = Due.laid("r0,1000,0,0,3,0,1;s0,2;r1,1000,0,0,3,0,1;m1,25;");
        doc.is("a year ahead", z.ahead(1), 7666);
        doc.is("those that stop stop ahead, too", z.ahead(3), 4200);
    }

    private void goneFirst() {
        doc.terms("GONE: in how many YEARS a metal of a REALM is first gone at a year's end (gold 0, silver below R)");
        TwoMetals x = Due.laid("r0,1000,0,0,100,0,1;r1,1000,0,0,101,0,1;m1,99999;");
        doc.is("the last of 100 years", x.gone(0, 0, 100), 100);
        doc.is("within 99", x.gone(0, 0, 99), Due.NONE);
        doc.is("a year too late", x.gone(1, 0, 100), Due.NONE);
        x.year();
        doc.is("a year later", x.gone(1, 0, 100), 100);
        doc.is("a year later", x.gone(0, 0, 100), 99);
        TwoMetals y = Due.laid("r0,1000,0,0,0,100,1;r1,1000,0,0,0,101,1;m9999,0;");
        doc.is("silver, the last of 100 years", y.gone(0, 1, 100), 100);
        doc.is("silver that is R is there", y.gone(0, 1, 99), Due.NONE);
        doc.is("silver, a year too late", y.gone(1, 1, 100), Due.NONE);
        doc.is("silver below R", Due.laid("r0,1001,0,0,0,1,0;").gone(0, 1, 1), 1);
        doc.is("silver that is R", Due.laid("r0,1000,0,0,0,1,0;").gone(0, 1, 1), Due.NONE);
    }

    private void goneAtAYearsEnd() {
        doc.terms("is first gone at a year's end");
        // out and in again within the year: 2000, 500, 2000
        TwoMetals x = Due.laid("r0,1000,0,0,1,0,2;m1,2;");
        doc.is("gold that is back", x.gone(0, 0, 100), Due.NONE);
        doc.is("silver that is spent again", x.gone(0, 1, 100), 1);
        // it goes in year 0 and comes back in year 1, when mines have brought gold
        TwoMetals y = Due.laid("r0,1000,0,0,1,0,1;m1,2;g1,9,0;");
        doc.is("the first time", y.gone(0, 0, 100), 1);
        y.year();
        doc.is("it is gone", y.realm(0, 3), 0);
        doc.is("but not at the next end", y.gone(0, 0, 100), Due.NONE);
        TwoMetals z = Due.laid("r0,1000,0,0,0,0,0;s0,0;");
        z.year();
        doc.is("of a realm that mints no more", z.gone(0, 0, 100), 1);
    }

    private void stoppedFirst() {
        doc.terms("STOPPED: likewise first mints no more");
        TwoMetals x = Due.laid("r0,1000,0,0,100,0,1;s0,0;r1,1000,0,0,101,0,1;s1,0;r2,1000,0,0,0,0,1;m1,99999;");
        doc.is("the last of 100 years", x.stopped(0, 100), 100);
        doc.is("within 99", x.stopped(0, 99), Due.NONE);
        doc.is("a year too late", x.stopped(1, 100), Due.NONE);
        doc.is("without a word", x.stopped(2, 100), Due.NONE);
        doc.is("at the first end", Due.laid("r0,1000,0,0,9,0,0;s0,9;").stopped(0, 1), 1);
    }

    private void freeFirst() {
        doc.terms("FREE: the first at whose end no REALM HOLDS THE RATIO; none");
        TwoMetals x = Due.laid("r0,2000,0,0,10,100,0;m10,20;g99,0,20;");
        doc.is("the last of 100 years", x.free(100), 100);
        doc.is("within 99", x.free(99), Due.NONE);
        x.year();
        doc.is("a year later", x.free(100), 99);
        // 4500 at the first end, 2000, which is held, at the second
        doc.is("the first end counts, not later ones", Due.laid("r0,2000,0,0,1,2,0;m1,9;g0,1,0;g1,8,11;g2,0,0;").free(100), 1);
        doc.is("a later one", Due.laid("r0,2000,0,0,1,2,0;m1,3;g0,1,1;g1,8,16;g2,1,0;").free(100), 3);
        doc.is("none is there", new TwoMetals().free(100), 1);
        doc.is("the last that held has stopped", Due.laid("r0,2000,0,0,9,9,0;s0,9;m10,20;").free(1), 1);
        doc.is("another holds", Due.laid("r0,2000,0,0,9,9,0;s0,9;r1,2000,0,0,1,2,0;m10,20;").free(100), Due.NONE);
        doc.is("free now, but not at the end", Due.laid("r0,2000,0,0,1,2,0;m1,3;g0,1,1;g1,0,0;").free(100), Due.NONE);
    }
}
