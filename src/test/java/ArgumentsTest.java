/** Every call with numbers from all over, in worlds of several kinds: no call throws, and each answers as the plain model. */
public final class ArgumentsTest {
    private static final int[] NUMBERS = {
        Integer.MIN_VALUE, Integer.MIN_VALUE + 1, -100000, -8, -2, -1, 0, 1, 2, 3, 5, 7, 8, 9, 31, 32, 33, 100, 101, 255, 256,
        999, 1000, 2000, 99999, 100000, 100000000, 100000001, Integer.MAX_VALUE
    };
    private static final String[] TEXTS = {
        "", "k", "m5,10;", "r7,2000,0,200,3,100,1;r0,1500,0,0,0,9,9;m10,20;",
        "r0,2000,0,0,5,100,3;s0,9;r1,99999,999,200,9999,9999,999;l1;m0,99999;g0,9999,9999;"
    };

    private final Due due = new Due("arguments");
    private TwoMetals x;
    private PlainModel model;

    public static void main(String[] args) {
        ArgumentsTest test = new ArgumentsTest();
        for (String text : TEXTS) {
            for (int years = 0; years < 3; years++) {
                test.worldOf(text, years);
                for (int a : NUMBERS) {
                    test.callsOfOne(text, a);
                    for (int b : NUMBERS) {
                        test.callsOfTwo(text, a, b);
                    }
                }
            }
        }
        test.due.finish();
    }

    private void worldOf(String text, int years) {
        x = new TwoMetals();
        model = new PlainModel();
        for (int i = 0; i < text.length(); i++) {
            x.write(1, text.charAt(i));
            model.write(1, text.charAt(i));
        }
        same(text, "lay()", x.lay(), model.lay());
        for (int i = 0; i < years; i++) {
            same(text, "year()", x.year(), model.year());
        }
    }

    private void same(String text, String call, long got, long want) {
        due.is("'" + text + "' " + call, got, want);
    }

    private void callsOfOne(String text, int a) {
        String told = "(" + a + ")";
        same(text, "market" + told, x.market(a), model.market(a));
        same(text, "moves" + told, x.moves(a), model.moves(a));
        same(text, "free" + told, x.free(a), model.free(a));
        same(text, "ahead" + told, x.ahead(a), model.ahead(a));
        same(text, "fewest" + told, x.fewest(a), model.fewest(a));
        same(text, "corner" + told, x.corner(a), model.corner(a));
        same(text, "count" + told, x.count(a), model.count(a));
        same(text, "rest()", x.rest(), model.rest());
    }

    private void callsOfTwo(String text, int a, int b) {
        String told = "(" + a + ", " + b + ")";
        same(text, "realm" + told, x.realm(a, b), model.realm(a, b));
        same(text, "ends" + told, x.ends(a, b), model.ends(a, b));
        same(text, "stopped" + told, x.stopped(a, b), model.stopped(a, b));
        same(text, "bought" + told, x.bought(a, b), model.bought(a, b));
        same(text, "move" + told, x.move(a, b), model.move(a, b));
        for (int c = -1; c <= 2; c++) {
            same(text, "debt" + told + c, x.debt(a, b, c), model.debt(a, b, c));
            same(text, "pact" + told + c, x.pact(a, b, c), model.pact(a, b, c));
            same(text, "gone" + told + c, x.gone(a, c, b), model.gone(a, c, b));
        }
        boolean isWritten = a >= 1 && a <= 8;
        if (!isWritten) {
            same(text, "write" + told, x.write(a, b), model.write(a, b));
        }
    }
}
