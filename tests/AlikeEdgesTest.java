/** Promises 40 to 43 at their edges. */
public final class AlikeEdgesTest {
    private static void promise40() {
        Bundlesale x = new Bundlesale();
        Check.beyond("40: GOOD", x, 0, 5, Check.INDEX, good -> x.single(good, 0, 0));
        Check.beyond("40: KIND", x, 0, 2, Check.ARGUMENT, kind -> x.single(0, kind, 0));
        Check.beyond("40: least", x, 0, 99, Check.ARGUMENT, least -> x.single(5, 2, least));
        Check.beyond("40: the GOOD ahead of all", x, 0, 5, Check.INDEX, good -> x.single(good, 3, 100));
        for (int kind = 0; kind <= 2; kind++) {
            int each = kind;
            Check.changingNothing("40: nobody", x, "-", () -> x.single(0, each, 0));
        }
        x.bidder(0);
        Check.due("40: without BIDS", x.single(0, 0, 0), "-");
        for (int good = 0; good <= 5; good++) {
            x.bid(0, 1 << good, good + 1);
            Check.due("40: of " + good, x.single(good, 0, 0), "0 " + (good + 1));
            Check.due("40: OFFER is the least", x.single(good, 0, good + 1), "0 " + (good + 1));
            Check.due("40: OFFER is 1 below the least", x.single(good, 0, good + 2), "-");
        }
        x.change(5, 99);
        Check.due("40: the greatest least one", x.single(5, 1, 99), "0 99");
        x.change(5, 98);
        Check.due("40: 98 doesn't count then", x.single(5, 1, 99), "-");
        x.budget(0, 0);
        Check.changingNothing("40: 0 never counts", x, "-", () -> x.single(5, 0, 0));
        x.budget(0, 1);
        Check.due("40: 1 does", x.single(5, 0, 0), "0 1");
        Check.due("40: alone, by KIND 1", x.single(5, 1, 0), "0 0");
        Check.due("40: alone, by KIND 1, the least is 1", x.single(5, 1, 1), "0 1");
        x.limit(0);
        Check.due("40: LIMIT 0", x.single(5, 0, 0), "0 1");
        x.out(5, true);
        Check.due("40: OUT", x.single(5, 0, 0), "-");
    }

    private static void offersForOneGood() {
        Bundlesale x = Houses.with(0, 1, 0, 1);
        x.bid(3, 32, 60);
        x.bid(2, 32, 60);
        x.bid(1, 32, 59);
        x.bid(0, 63, 99);
        Check.due("40: alike: the smaller BIDDER, not the smaller BID", x.single(5, 0, 0), "2 60");
        Check.due("40: the second greatest is as great", x.single(5, 1, 0), "2 60");
        Check.due("40: three pay", x.single(5, 2, 0), "2 179");
        Check.due("40: 59 counts", x.single(5, 2, 59), "2 179");
        Check.due("40: 59 doesn't", x.single(5, 2, 60), "2 120");
        x.budget(2, 59);
        Check.due("40: at most the BUDGET", x.single(5, 0, 0), "3 60");
        Check.due("40: the second greatest", x.single(5, 1, 0), "3 59");
        Check.due("40: but at least the least one", x.single(5, 1, 60), "3 60");
        x.join(5, 0, true);
        Check.due("40: a TEAM is more than just that GOOD", x.single(5, 0, 0), "-");
        Bundlesale y = Houses.with(0, 0);
        y.bid(0, 1, 20);
        y.bid(1, 1, 50);
        Check.due("40: the greatest behind", y.single(0, 1, 0), "1 20");
        Check.due("40: what doesn't count is no second one", y.single(0, 1, 21), "1 21");
    }

    private static void promise41() {
        Bundlesale x = new Bundlesale();
        Check.beyond("41: things", x, 0, 12, Check.ARGUMENT, many -> x.handOut(many, 0));
        Check.beyond("41: KIND", x, 0, 2, Check.ARGUMENT, kind -> x.handOut(12, kind));
        for (int kind = 0; kind <= 2; kind++) {
            int each = kind;
            Check.changingNothing("41: nobody", x, "", () -> x.handOut(12, each));
        }
        x.bidder(0);
        Check.due("41: without WORTHS", x.handOut(12, 0), "0 0");
        x.worths(0, 1, 0, 0);
        Check.changingNothing("41: WORTH 1 gets one, 0 gets none", x, "1 1", () -> x.handOut(12, 0));
        Check.due("41: no thing", x.handOut(0, 0), "0 0");
        Check.due("41: nothing is LEFT", x.handOut(1, 1), "1 0");
        x.bidder(1);
        x.bidder(0);
        x.bidder(1);
        for (int bidder = 0; bidder <= 3; bidder++) {
            x.worths(bidder, 99, 99, 99);
        }
        String[] all = {"3 297 3 297 3 297 3 297", "3 0 3 0 3 0 3 0", "3 0 3 0 3 0 3 0"};
        String[] oneLess = {"3 297 3 297 3 297 2 198", "3 297 3 297 3 297 2 198", "3 99 3 99 3 99 2 0"};
        String[] three = {"3 297 0 0 0 0 0 0", "3 297 0 0 0 0 0 0", "3 297 0 0 0 0 0 0"};
        for (int kind = 0; kind <= 2; kind++) {
            Check.due("41: 12 of 12, KIND " + kind, x.handOut(12, kind), all[kind]);
            Check.due("41: 11 of 12, KIND " + kind, x.handOut(11, kind), oneLess[kind]);
            Check.due("41: alike, the smaller BIDDER, KIND " + kind, x.handOut(3, kind), three[kind]);
            Check.due("41: none of 12, KIND " + kind, x.handOut(0, kind), "0 0 0 0 0 0 0 0");
        }
        x.limit(0);
        Check.due("41: LIMIT 0", x.handOut(12, 0), all[0]);
    }

    private static void leftOnes() {
        Bundlesale x = Houses.with(0, 0);
        x.worths(0, 9, 8, 7);
        x.worths(1, 6, 5, 4);
        Check.due("41: KIND 1, the greatest LEFT is its own", x.handOut(2, 1), "2 14 0 0");
        Check.due("41: KIND 2, of the others", x.handOut(2, 2), "2 11 0 0");
        Check.due("41: KIND 2, three of them", x.handOut(3, 2), "3 15 0 0");
        Check.due("41: KIND 2, what gets one is not LEFT", x.handOut(4, 2), "3 9 1 0");
        Check.due("41: KIND 1, the last one is LEFT", x.handOut(5, 1), "3 12 2 8");
        Check.due("41: KIND 2, but one is LEFT for three", x.handOut(5, 2), "3 4 2 0");
        x.worths(1, 8, 8, 0);
        Check.due("41: alike: the smaller BIDDER", x.handOut(2, 0), "2 17 0 0");
        Check.due("41: alike: then the other one", x.handOut(3, 0), "2 17 1 8");
        Check.due("41: 7 is behind 8", x.handOut(4, 0), "2 17 2 16");
        Check.due("41: 0 gets none", x.handOut(6, 0), "3 24 2 16");
    }

    private static void met(int[] buyers, int[] sellers, String trades, int lost) {
        Bundlesale x = new Bundlesale();
        for (int coins : buyers) {
            x.offer(true, coins);
        }
        for (int coins : sellers) {
            x.offer(false, coins);
        }
        String what = java.util.Arrays.toString(buyers) + java.util.Arrays.toString(sellers);
        Check.changingNothing("42: " + what, x, trades, () -> x.trades());
        Check.changingNothing("43: " + what, x, lost, () -> x.lost());
        Bundlesale y = new Bundlesale();
        for (int k = sellers.length - 1; k >= 0; k--) {
            y.offer(false, sellers[k]);
        }
        for (int k = buyers.length - 1; k >= 0; k--) {
            y.offer(true, buyers[k]);
        }
        Check.due("43: told the other way round, and LOST first " + what, y.lost(), lost);
        Check.due("42: told the other way round " + what, y.trades(), trades);
    }

    private static int[] some(int... coins) {
        return coins;
    }

    private static void promises42And43() {
        met(some(), some(), "0", 0);
        met(some(999), some(), "0", 0);
        met(some(), some(1), "0", 0);
        met(some(1, 1, 1, 1, 1, 1, 1, 1), some(), "0", 0);
        met(some(5), some(6), "0", 0);
        met(some(5), some(5), "0", 0);
        met(some(6), some(5), "0", 1);
        met(some(999), some(1), "0", 998);
        met(some(1), some(999), "0", 0);
        met(some(5, 4), some(6, 7), "0", 0);
    }

    /** The MIDDLE is no more than the last BUYER's coins and no less than the last SELLER's: each to the half coin. */
    private static void middle() {
        met(some(16, 12), some(10, 20), "1 16 16", 0);
        met(some(16, 12), some(10, 21), "0", 6);
        met(some(16, 11), some(10, 20), "1 31/2 31/2", 0);
        met(some(16, 1), some(10, 19), "1 10 10", 0);
        met(some(16, 1), some(10, 18), "0", 6);
        met(some(16, 1), some(10, 20), "1 21/2 21/2", 0);
        met(some(16, 16, 12), some(10, 10, 21), "1 16 10", 6);
        met(some(16, 16), some(10, 10, 11), "1 16 10", 6);
        met(some(16, 16, 11), some(10, 10), "1 16 10", 6);
        met(some(16, 16, 10), some(10, 10, 10), "2 10 10", 0);
        met(some(16, 16, 9), some(10, 10, 10), "1 16 10", 6);
        met(some(16, 16, 9), some(10, 10, 11), "2 10 10", 0);
        met(some(999, 998), some(999, 999), "0", 0);
        met(some(999, 998), some(998, 999), "1 1997/2 1997/2", 0);
    }

    /** As traders come and are undone, what was met before is forgotten. */
    private static void tradersComeAndGo() {
        Bundlesale x = new Bundlesale();
        x.offer(true, 9);
        x.offer(false, 5);
        Check.due("43: one pair", x.lost(), 4);
        x.offer(true, 8);
        x.offer(false, 8);
        Check.due("42: MIDDLE of the next two", x.trades(), "1 8 8");
        Check.due("43: none is LOST", x.lost(), 0);
        x.undo();
        Check.due("42: no next SELLER", x.trades(), "0");
        Check.due("43: a pair is LOST again", x.lost(), 4);
        x.undo();
        x.undo();
        Check.due("43: no SELLER, none is LOST", x.lost(), 0);
        Check.due("42: no SELLER", x.trades(), "0");
        Bundlesale y = new Bundlesale();
        y.offer(true, 9);
        y.offer(true, 8);
        y.offer(false, 5);
        y.offer(false, 6);
        Check.due("42: a pair trades", y.trades(), "1 8 6");
        y.undo();
        y.undo();
        Check.due("42: both SELLERS have gone", y.trades(), "0");
    }

    private static void allTraders() {
        met(some(9, 9, 9, 9, 9, 9, 9, 9), some(1, 1, 1, 1, 1, 1, 1, 1), "7 9 1", 8);
        met(some(9, 9, 9, 9, 9, 9, 9, 3), some(1, 1, 1, 1, 1, 1, 1, 4), "7 7/2 7/2", 0);
        met(some(9, 9, 9, 9, 9, 9, 9, 4), some(1, 1, 1, 1, 1, 1, 1, 4), "7 4 4", 0);
        met(some(8, 7, 6, 5, 4, 3, 2, 1), some(8, 7, 6, 5, 4, 3, 2, 1), "4 9/2 9/2", 0);
        met(some(999, 999, 999, 999, 999, 999, 999, 999), some(999, 999, 999, 999, 999, 999, 999, 999),
            "7 999 999", 0);
        Bundlesale x = Houses.full();
        String trades = x.trades();
        x.limit(0);
        Check.due("42: LIMIT 0", x.trades(), trades);
        Check.due("42: the full house: 999 to 649 meet 100 to 520", trades, "7 649 520");
        Check.due("43: the full house", x.lost(), 129);
    }

    public static void main(String[] args) {
        promise40();
        offersForOneGood();
        promise41();
        leftOnes();
        promises42And43();
        middle();
        tradersComeAndGo();
        allTraders();
        Check.end("AlikeEdgesTest");
    }
}
