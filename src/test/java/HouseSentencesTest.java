/** The edges that the document names where it tells of debts, pacts, houses and kept worlds, sentence by sentence. */
public final class HouseSentencesTest {
    private final Sentences doc = new Sentences("sentences of houses");

    public static void main(String[] args) {
        HouseSentencesTest test = new HouseSentencesTest();
        test.debtsAmount();
        test.debtsInRealmsThatMint();
        test.debtsInTheCheaper();
        test.pactsSet();
        test.pactsLaw();
        test.pactsPass();
        test.pactsThatHold();
        test.fewestRealms();
        test.boughtSacks();
        test.boughtSacksPass();
        test.cornerSteps();
        test.cornerOfAll();
        test.cornerChangesNothing();
        test.movedForGood();
        test.meltedGold();
        test.keptWorlds();
        test.keptTwoAtMost();
        test.doc.finish();
    }

    private void debtsAmount() {
        doc.terms("A DEBT of D (1 to 100000000 thousandths of silver)");
        TwoMetals x = Due.laid("r0,2000,0,0,0,0,0;m1000,1999;");
        doc.is("1", x.debt(0, 1, 1), 1);
        doc.is("1 costs", x.debt(0, 1, 0), 0);
        doc.is("100000000 costs", x.debt(0, 100000000, 0), 99950000);
        int[] wrong = {0, -1, 100000001, Integer.MIN_VALUE, Integer.MAX_VALUE};
        for (int d : wrong) {
            doc.bad("cost of " + d, x.debt(0, d, 0));
            doc.bad("metal of " + d, x.debt(0, d, 1));
        }
        TwoMetals y = Due.laid("r0,1000,0,0,0,0,0;m1000,2000;");
        doc.is("1 in silver", y.debt(0, 1, 0), 1);
        doc.is("100000000 in silver", y.debt(0, 100000000, 0), 100000000);
        doc.is("as much as an int can't hold", Due.laid("r0,99999,0,0,0,0,0;m1,99;").debt(0, 100000000, 0), 99000990);
    }

    private void debtsInRealmsThatMint() {
        doc.terms("in a REALM that mints: one pays gold");
        TwoMetals x = Due.laid("r0,2000,0,0,5,0,0;s0,5;r1,2000,0,0,5,0,0;l1;m10,10;");
        doc.is("it mints", x.debt(0, 100, 0), 50);
        doc.is("it limps, but mints", x.debt(1, 100, 0), 50);
        x.year();
        doc.is("it mints no more: cost", x.debt(0, 100, 0), Due.NO);
        doc.is("it mints no more: metal", x.debt(0, 100, 1), Due.NO);
        doc.is("the other mints", x.debt(1, 100, 1), 1);
    }

    private void debtIs(String market, int d, long cost, long gold) {
        TwoMetals x = Due.laid("r0,2000,999,200,0,0,0;" + market);
        doc.is("cost at " + market, x.debt(0, d, 0), cost);
        doc.is("metal at " + market, x.debt(0, d, 1), gold);
    }

    private void debtsInTheCheaper() {
        doc.terms("one pays gold, if THE RATIO is below R, else silver; it costs (D times THE RATIO by R, cut) then, else D");
        debtIs("m1000,1999;", 2000, 1999, 1);
        debtIs("m1000,2000;", 2000, 2000, 0);
        debtIs("m1000,2001;", 2000, 2000, 0);
        debtIs("m1000,1999;", 2001, 1999, 1);
        debtIs("m1000,1999;", 1999, 1998, 1);
        debtIs("m1000,0;", 2000, 0, 1);
        debtIs("m0,0;", 2000, 2000, 0);
    }

    private static String eightRealms(String behindNumber) {
        StringBuilder text = new StringBuilder();
        for (int n = 0; n < 8; n++) {
            text.append('r').append(n).append(behindNumber);
        }
        return text.toString();
    }

    private void pactsSet() {
        doc.terms("PACT of REALMS (a set of such as mint; not empty)");
        TwoMetals x = Due.laid(eightRealms(",2000,0,0,1,2,0;") + "l3;m10,20;");
        for (int n = 0; n < 8; n++) {
            doc.is("realm " + n + " alone", x.pact(1 << n, 2000, 0), 1);
        }
        doc.is("all eight", x.pact(255, 2000, 0), 1);
        int[] wrong = {0, 256, 257, 511, -1, -256, 1 << 30, Integer.MIN_VALUE, Integer.MIN_VALUE | 1, Integer.MAX_VALUE};
        for (int set : wrong) {
            doc.bad("set " + set, x.pact(set, 2000, 0));
            doc.bad("set " + set, x.pact(set, 2000, 1));
        }
        TwoMetals y = Due.laid("r0,2000,0,0,1,2,0;s0,1;r2,2000,0,0,1,2,0;l2;m10,20;");
        doc.is("both mint", y.pact(5, 2000, 0), 1);
        y.year();
        doc.bad("one mints no more", y.pact(1, 2000, 0));
        doc.bad("one of two mints no more", y.pact(5, 2000, 0));
        doc.is("the one that mints, though it limps", y.pact(4, 2000, 0), 1);
        doc.bad("one is not there", y.pact(2, 2000, 0));
        doc.bad("one of two is not there", y.pact(6, 2000, 0));
        doc.bad("no realm at all", new TwoMetals().pact(1, 2000, 0));
        doc.bad("no realm at all, none asked for", new TwoMetals().pact(0, 2000, 0));
    }

    private void pactsLaw() {
        doc.terms("at r (1000 to 99999)");
        // its ratio is 1000 or 99000, and a realm with both metals holds it where its law is the same or near
        doc.is("the least", Due.laid("r0,5000,0,0,1,1,0;m1,1;").pact(1, 1000, 0), 1);
        doc.is("the greatest", Due.laid("r0,5000,999,0,1,100,0;m1,99;").pact(1, 99999, 0), 1);
        TwoMetals x = Due.laid("r0,1000,0,0,1,1,0;m1,1;");
        int[] wrong = {999, 100000, 0, -1000, Integer.MIN_VALUE, Integer.MAX_VALUE};
        for (int r : wrong) {
            doc.bad("pact at " + r, x.pact(1, r, 0));
            doc.bad("pact's ratio at " + r, x.pact(1, r, 1));
            doc.bad("fewest at " + r, x.fewest(r));
            doc.bad("fewest of none at " + r, new TwoMetals().fewest(r));
        }
        doc.is("fewest at the least", x.fewest(1000), 1);
        doc.is("fewest at the greatest", Due.laid("r0,5000,999,0,1,100,0;m1,99;").fewest(99999), 1);
    }

    private void pactsPass() {
        doc.terms("their R becomes r, all comes to REST (all is as it was then)");
        // realm 0 alone moves at 2000: 4000, 3454, 3000, 2615, 2285; realm 1, outside, has no metal
        TwoMetals x = Due.laid("r0,9000,0,200,5,0,0;s0,9;r1,3000,0,0,0,0,0;m10,40;g0,5,5;");
        String before = Sentences.stateOf(x);
        doc.is("the ratio", x.pact(1, 2000, 1), 2285);
        doc.is("it holds", x.pact(1, 2000, 0), 1);
        doc.is("fewest", x.fewest(2000), 1);
        doc.unchanged(x, before);
        doc.is("of one that moves none", x.pact(2, 2000, 1), 4000);
        doc.is("fewest, none", x.fewest(4800), Due.NONE);
        doc.unchanged(x, before);
        TwoMetals y = Due.laid("r0,1500,0,0,5,100,0;m10,15;");
        before = Sentences.stateOf(y);
        doc.is("it never rests", y.pact(1, 2000, 0), Due.SPENT);
        doc.is("it never rests", y.pact(1, 2000, 1), Due.SPENT);
        doc.is("fewest, spent", y.fewest(2000), Due.NONE);
        doc.unchanged(y, before);
    }

    private void pactsThatHold() {
        doc.terms("it HOLDS, if each of them HELDs THE RATIO then");
        // nothing moves: realm 1 lacks gold, realm 2 silver; the ends of realm 3 are 1917 and 2875 by its own law
        TwoMetals x = Due.laid("r0,2000,0,0,1,2,0;r1,2000,0,0,0,2,0;r2,2000,0,0,1,1,0;r3,2300,0,200,1,9,0;m10,20;");
        int[] sets = {1, 2, 3, 4, 5, 6, 7, 8, 9, 11, 13};
        int[] holds = {1, 0, 0, 0, 0, 0, 0, 1, 1, 0, 0};
        for (int i = 0; i < sets.length; i++) {
            doc.is("set " + sets[i], x.pact(sets[i], 2000, 0), holds[i]);
        }
        doc.is("the ratio of one that does not hold", x.pact(2, 2000, 1), 2000);
    }

    private void fewestRealms() {
        doc.terms("FEWEST: the fewest REALMS whose PACT at r HOLDS; of several the least bits; none");
        doc.is("none is there", new TwoMetals().fewest(1000), Due.NONE);
        doc.is("the least bits of eight", Due.laid(eightRealms(",2000,0,0,1,2,0;") + "m10,20;").fewest(2000), 1);
        doc.is("the greatest bit", Due.laid("r7,2000,0,0,1,2,0;m10,20;").fewest(2000), 128);
        doc.is("one that limps", Due.laid("r6,2000,0,0,1,2,0;l6;m10,20;").fewest(2000), 64);
        doc.is("one without metals", Due.laid("r0,2000,0,0,0,0,0;m10,20;").fewest(2000), Due.NONE);
        // alone, realm 0 loses its gold to realm 1 and realm 1 its silver to realm 0; realm 7 holds whatever they do
        String two = "r0,1000,0,200,1,2,0;r1,3000,0,200,1,3,0;m5,10;";
        doc.is("two", Due.laid(two).fewest(2000), 3);
        doc.is("one of more bits is fewer", Due.laid(two + "r7,2000,999,200,1,3,0;").fewest(2000), 128);
        // any that stays outside takes a sack in, for which one inside loses its last
        doc.is("all eight", Due.laid("m5,10;" + eightRealms(",3000,0,200,1,3,0;")).fewest(2000), 255);
        TwoMetals x = Due.laid("r0,2000,0,0,1,2,0;s0,1;r5,2000,0,0,1,2,0;m10,20;");
        doc.is("both mint", x.fewest(2000), 1);
        x.year();
        doc.is("one mints no more", x.fewest(2000), 32);
        TwoMetals y = Due.laid("r0,2000,0,0,1,2,0;s0,1;m10,20;");
        y.year();
        doc.is("none mints any more", y.fewest(2000), Due.NONE);
    }

    private void boughtSacks() {
        doc.terms("BOUGHT n SACKS of gold from THE MARKET (n no more than there are)");
        TwoMetals x = Due.laid("m99999,99999;r3,1000,0,0,0,0,0;");
        doc.is("none", x.bought(0, -1), 1000);
        doc.is("one", x.bought(1, -1), 1000);
        doc.is("all but one", x.bought(99998, -1), 1000000);
        doc.is("all", x.bought(99999, -1), 1000000);
        int[] wrong = {-1, 100000, Integer.MIN_VALUE, Integer.MAX_VALUE};
        for (int n : wrong) {
            doc.bad("ratio by " + n, x.bought(n, -1));
            doc.bad("gold by " + n, x.bought(n, 3));
        }
        TwoMetals y = Due.laid("g0,9999,0;r0,99999,0,0,7,0,0;");
        doc.is("none of none", y.bought(0, 0), 7);
        doc.bad("one of none", y.bought(1, 0));
        Due.years(y, 20);
        doc.is("as many as mines have brought", y.bought(199980, 0), 7);
        doc.bad("one more", y.bought(199981, 0));
    }

    private void boughtSacksPass() {
        doc.terms("all comes to REST: THE RATIO then; the gold of a REALM then");
        // its ends: 1667 and 2500; 2857 with three bought, 2250 when a sack has gone out, though F is 0
        TwoMetals x = Due.laid("r0,2000,0,200,3,100,0;s0,9;m10,20;g0,5,5;");
        String before = Sentences.stateOf(x);
        doc.is("the ratio", x.bought(3, -1), 2250);
        doc.is("the gold", x.bought(3, 0), 2);
        doc.unchanged(x, before);
        TwoMetals y = Due.laid("r0,2000,0,0,3,100,0;m10,20;");
        before = Sentences.stateOf(y);
        doc.is("it never rests", y.bought(5, -1), Due.SPENT);
        doc.is("it never rests", y.bought(5, 0), Due.SPENT);
        doc.unchanged(y, before);
    }

    private void cornerSteps() {
        doc.terms("CORNER of a REALM that mints: the least n of 0, 1, 2, 4, ..");
        doc.is("it has none", Due.laid("r0,2000,0,200,0,100,0;m10,20;").corner(0), 0);
        doc.is("it goes of itself", Due.laid("r0,1000,0,0,1,0,0;m10,99;").corner(0), 0);
        doc.is("one", Due.laid("r0,2000,0,200,1,0,0;m4,10;").corner(0), 1);
        doc.is("two", Due.laid("r0,2000,0,200,2,0,0;m8,20;").corner(0), 2);
        // its one sack goes out above its law: 2901 with 65536 bought, 1487 with 32768, 1000000 with all
        doc.is("65536", Due.laid("r0,2900,0,0,1,0,0;m99999,99999;").corner(0), 65536);
        doc.is("32768", Due.laid("r0,1486,0,0,1,0,0;m99999,99999;").corner(0), 32768);
        doc.is("not 32768", Due.laid("r0,1487,0,0,1,0,0;m99999,99999;").corner(0), 65536);
        TwoMetals x = Due.laid("r0,2000,0,200,0,0,0;s0,0;r1,2000,0,200,0,0,0;l1;m10,20;");
        doc.is("it mints", x.corner(0), 0);
        doc.is("it limps, but mints", x.corner(1), 0);
        x.year();
        doc.is("it mints no more", x.corner(0), Due.NO);
    }

    private void cornerOfAll() {
        doc.terms("(and all there is) by which its gold is gone at REST; none");
        doc.is("all", Due.laid("r0,2901,0,0,1,0,0;m99999,99999;").corner(0), 99999);
        doc.is("all, dear", Due.laid("r0,99999,0,0,1,0,0;m99999,99999;").corner(0), 99999);
        doc.is("there is too little silver", Due.laid("r0,99999,0,0,1,0,0;m99999,99;").corner(0), Due.NONE);
        doc.is("it limps", Due.laid("r0,2901,0,0,1,0,0;l0;m99999,99999;").corner(0), Due.NONE);
        doc.is("all is nothing, none gone", Due.laid("r0,2000,0,200,2,0,0;m0,1;").corner(0), Due.NONE);
        doc.is("all is nothing, gone", Due.laid("r0,2000,0,200,2,0,0;m0,9;").corner(0), 0);
        // from 835 to 3748 nothing moves; the sack that goes out leaves 1000 behind
        doc.is("all is one", Due.laid("r0,2000,999,200,1,0,0;m1,3;").corner(0), 1);
        doc.is("two of three", Due.laid("r0,2000,999,200,1,0,0;m3,4;").corner(0), 2);
        doc.is("all is three", Due.laid("r0,2000,999,200,1,0,0;m3,3;").corner(0), 3);
    }

    private void cornerChangesNothing() {
        doc.terms("by which its gold is gone at REST; none");
        TwoMetals x = Due.laid("r0,2900,0,0,1,0,0;s0,9;r1,2900,0,200,9999,9999,0;l1;m99999,99999;g0,5,5;");
        String before = Sentences.stateOf(x);
        doc.is("found", x.corner(0), 65536);
        doc.is("none", x.corner(1), Due.NONE);
        doc.unchanged(x, before);
    }

    private void movedForGood() {
        doc.terms("MOVED: a REALM's R becomes r for good");
        TwoMetals x = Due.laid("r0,2000,0,0,5,100,1;r1,2000,0,0,5,100,1;m10,20;");
        doc.is("to the greatest", x.move(0, 99999), 2000);
        doc.is("to the least", x.move(0, 1000), 99999);
        doc.is("to the same", x.move(0, 1000), 1000);
        doc.is("the other's", x.realm(1, 0), 2000);
        doc.is("it moves by it", x.moves(0), 1);
        doc.is("its ends", x.ends(0, 0), 1000);
        doc.is("its ends", x.ends(0, 1), 1000);
        x.year();
        doc.is("a sack at this law", x.realm(0, 4), 101000);
        x.rest();
        x.pact(1, 5000, 0);
        x.fewest(5000);
        doc.is("for good", x.realm(0, 0), 1000);
        int[] wrong = {999, 100000, 0, -1, Integer.MIN_VALUE, Integer.MAX_VALUE};
        String before = Sentences.stateOf(x);
        for (int r : wrong) {
            doc.bad("to " + r, x.move(0, r));
        }
        doc.unchanged(x, before);
    }

    private void meltedGold() {
        doc.terms("MELTED: REALMS whose gold is worth more than their law says: THE RATIO above R, as bits");
        String three = "r0,1999,999,200,0,0,0;r1,2000,0,0,9,9,9;r7,2001,0,0,9,9,9;";
        doc.is("one above", Due.laid(three + "m1000,2000;").melted(), 1);
        doc.is("none above", Due.laid(three + "m1000,1999;").melted(), 0);
        doc.is("two above", Due.laid(three + "m1000,2001;").melted(), 3);
        doc.is("all above", Due.laid(three + "m1000,2002;").melted(), 131);
        doc.is("without gold on the market", Due.laid(eightRealms(",99999,0,0,0,0,0;")).melted(), 255);
        doc.is("one that limps", Due.laid("r2,1000,0,0,0,0,0;l2;m1,2;").melted(), 4);
        TwoMetals x = Due.laid("r2,1000,0,0,0,0,0;s2,0;m1,2;");
        x.year();
        doc.is("one that mints no more", x.melted(), 4);
        doc.is("no realm", new TwoMetals().melted(), 0);
    }

    private void keptWorlds() {
        doc.terms("KEPT are all REALMS, THE MARKET, the YEAR");
        TwoMetals x = Due.laid("r0,1000,5,7,9,50,2;s0,6;r7,3000,0,0,9,50,2;l7;m10,20;g0,3,8;");
        x.keep();
        x.back();
        String first = Sentences.stateOf(x);
        x.keep();
        x.year();
        x.move(0, 1500);
        String second = Sentences.stateOf(x);
        x.keep();
        x.move(7, 5000);
        Due.years(x, 2);
        doc.is("realm 0 stopped", x.realm(0, 6), 0);
        x.rest();
        doc.is("the last", x.back(), 1);
        x.keep();
        x.back();
        x.back();
        doc.unchanged(x, first);
        TwoMetals y = Due.laid("r0,1000,5,7,9,50,2;s0,6;r7,3000,0,0,9,50,2;l7;m10,20;g0,3,8;");
        y.year();
        y.move(0, 1500);
        y.keep();
        y.keep();
        y.year();
        y.move(7, 5000);
        doc.is("the last of two", y.back(), 1);
        doc.unchanged(y, second);
        // what moves later leaves alone what is kept
        y.rest();
        y.move(0, 9000);
        y.year();
        y.back();
        y.keep();
        doc.unchanged(y, second);
    }

    private void keptTwoAtMost() {
        doc.terms("the YEAR: 2 at most");
        TwoMetals x = Due.laid("m10,20;g0,1,1;");
        doc.is("one", x.keep(), 1);
        x.year();
        doc.is("two", x.keep(), 2);
        x.year();
        String before = Sentences.stateOf(x);
        doc.is("a third", x.keep(), Due.FULL);
        doc.is("and again", x.keep(), Due.FULL);
        doc.unchanged(x, before);
        doc.is("the second is left as it was", x.back(), 1);
        doc.is("its year", x.market(3), 1);
        doc.is("its gold", x.market(0), 11);
        doc.is("its silver", x.market(1), 21000);
        doc.is("room again", x.keep(), 2);
        doc.is("full again", x.keep(), Due.FULL);
        x.year();
        doc.is("back", x.back(), 1);
        doc.is("back", x.back(), 0);
        doc.is("the first is left as it was", x.market(3), 0);
        doc.is("its gold", x.market(0), 10);
        doc.is("its silver", x.market(1), 20000);
    }
}
