/** Promises 44 to 48 at their edges, with what section 6 tells of them. */
public final class MatchedEdgesTest {
    private static void promise44() {
        Bundlesale x = new Bundlesale();
        Check.changingNothing("44: nobody", x, "", () -> x.matched());
        for (int many = 1; many <= 4; many++) {
            x.bidder(many & 1);
            Check.due("44: nothing for " + many, x.matched(), "- - - -".substring(0, many * 2 - 1));
        }
        x.bid(3, 32, 1);
        Check.changingNothing("44: a worth of 1, the last GOOD, the last BIDDER", x, "- - - 5", () -> x.matched());
        x.bid(0, 32, 1);
        Check.due("44: alike sums: BIDDER 0 ahead", x.matched(), "5 - - -");
        x.bid(3, 16, 1);
        Check.due("44: both", x.matched(), "5 - - 4");
        x.bid(0, 16, 1);
        Check.due("44: alike sums: the smaller GOOD for BIDDER 0", x.matched(), "4 - - 5");
        x.bid(3, 1, 1);
        Check.due("44: alike sums: then for BIDDER 3", x.matched(), "4 - - 0");
        x.bid(0, 2, 2);
        Check.due("44: 1 more is ahead of a smaller GOOD", x.matched(), "1 - - 0");
        x.budget(0, 0);
        Check.due("44: none without worth", x.matched(), "- - - 0");
        x.budget(0, 1);
        Check.due("44: at most the BUDGET", x.matched(), "1 - - 0");
        x.limit(0);
        Check.due("44: LIMIT 0", x.matched(), "1 - - 0");
        x.join(1, 0, true);
        Check.due("44: a TEAM is not of the market", x.matched(), "4 - - 5");
        x.out(4, true);
        Check.due("44: nor is what is OUT", x.matched(), "5 - - -");
        x.out(5, true);
        Check.due("44: nothing is left", x.matched(), "- - - -");
    }

    private static void atMostOneEach() {
        Bundlesale x = Houses.with(1, 1, 1, 1);
        for (int bidder = 0; bidder <= 3; bidder++) {
            for (int good = 0; good <= 3; good++) {
                x.bid(bidder, 1 << good, bidder == good ? 11 : 10);
            }
        }
        Check.due("44: one GOOD each, though FORM 1", x.matched(), "0 1 2 3");
        x.change(3, 12);
        Check.due("44: alike sums: the smaller one for BIDDER 0", x.matched(), "0 1 2 3");
        x.change(3, 13);
        Check.due("44: 1 more by an exchange", x.matched(), "3 1 2 0");
        x.out(0, true);
        Check.due("44: three GOODS for four", x.matched(), "3 1 2 -");
        x.limit(11);
        x.sell(0);
        x.limit(16);
        x.sell(0);
        Check.due("44: nothing is left when all is SOLD", x.matched(), "- - - -");
    }

    private static void promise45() {
        Bundlesale x = new Bundlesale();
        for (int way = 0; way <= 1; way++) {
            boolean isLeast = way == 0;
            Check.beyond("45: GOOD", x, 0, 5, Check.INDEX, good -> x.edge(good, isLeast));
            for (int good = 0; good <= 5; good++) {
                int each = good;
                Check.changingNothing("45: nobody wants " + good, x, 0, () -> x.edge(each, isLeast));
            }
        }
        for (int bidder = 0; bidder <= 3; bidder++) {
            x.bidder(bidder & 1);
        }
        int[] least = {0, 5, 5, 6};
        int[] most = {9, 9, 9, 9};
        int[] offers = {9, 5, 3, 6};
        for (int bidder = 0; bidder <= 3; bidder++) {
            x.bid(bidder, 32, offers[bidder]);
            Check.due("45: there but twice, LEAST", x.edge(5, true), least[bidder]);
            Check.due("45: without it, MOST", x.edge(5, false), most[bidder]);
        }
        x.change(3, 9);
        Check.due("45: alike, LEAST", x.edge(5, true), 9);
        Check.due("45: alike, MOST", x.edge(5, false), 9);
        x.limit(0);
        Check.changingNothing("45: LIMIT 0", x, 9, () -> x.edge(5, true));
    }

    private static void notInTheMarket() {
        for (int good = 0; good <= 5; good++) {
            int each = good;
            Bundlesale x = Houses.with(0);
            x.bid(0, 1 << good, 5);
            Check.due("45: LEAST of " + good, x.edge(good, true), 0);
            Check.due("45: MOST of " + good, x.edge(good, false), 5);
            x.out(good, true);
            Check.changingNothing("45: OUT " + good, x, -9, () -> x.edge(each, true));
            Check.changingNothing("45: OUT, MOST " + good, x, -9, () -> x.edge(each, false));
            x.out(good, false);
            x.join(good, (good + 1) % 6, true);
            Check.changingNothing("45: a TEAM " + good, x, -9, () -> x.edge(each, true));
            Check.changingNothing("45: a TEAM, MOST " + good, x, -9, () -> x.edge(each, false));
            Check.due("45: the other one of the TEAM", x.edge((good + 1) % 6, true), -9);
            Check.due("45: not of the TEAM", x.edge((good + 2) % 6, true), 0);
            x.join(good, (good + 1) % 6, false);
            x.sell(0);
            Check.changingNothing("45: SOLD " + good, x, -9, () -> x.edge(each, true));
            Check.changingNothing("45: SOLD, MOST " + good, x, -9, () -> x.edge(each, false));
            Check.beyond("45: a throw ahead of -9, GOOD", x, 0, 5, Check.INDEX, any -> x.edge(any, false));
        }
    }

    private static void promise46() {
        for (int good = 0; good <= 5; good++) {
            Bundlesale x = Houses.with(0, 0);
            Check.changingNothing("46: nothing, PRICES 0", x, true, () -> x.stand());
            x.price(good, 1);
            Check.changingNothing("46: nobody pays 1 for " + good, x, false, () -> x.stand());
            x.bid(0, 1 << good, 9);
            x.bid(1, 1 << good, 5);
            int[] prices = {0, 4, 5, 6, 8, 9, 10, 99};
            boolean[] stands = {false, false, true, true, true, true, false, false};
            for (int k = 0; k < prices.length; k++) {
                x.price(good, prices[k]);
                Check.due("46: PRICE " + prices[k] + " of " + good, x.stand(), stands[k]);
            }
            x.price(good, 5);
            x.limit(0);
            Check.due("46: LIMIT 0", x.stand(), true);
            x.budget(0, 4);
            Check.due("46: at most the BUDGET", x.stand(), true);
            x.budget(1, 4);
            Check.due("46: both have 4", x.stand(), false);
            x.out(good, true);
            Check.due("46: OUT, without its PRICE", x.stand(), true);
            x.out(good, false);
            x.join(good, (good + 5) % 6, true);
            Check.due("46: a TEAM, without its PRICE", x.stand(), true);
            x.join(good, (good + 5) % 6, false);
            x.limit(16);
            x.sell(0);
            Check.due("46: SOLD, without its PRICE", x.stand(), true);
            x.giveUp(good);
            Check.due("46: given back, with its PRICE", x.stand(), false);
        }
    }

    private static void promise47() {
        Bundlesale x = new Bundlesale();
        Check.beyond("47: nobody, BIDDER", x, 0, -1, Check.INDEX, bidder -> x.shapley(bidder));
        x.bidder(0);
        Check.changingNothing("47: without BIDS", x, "0", () -> x.shapley(0));
        x.bid(0, 1, 99);
        Check.due("47: one alone has all", x.shapley(0), "99");
        x.change(0, 1);
        x.bidder(0);
        Check.due("47: who adds nothing", x.shapley(1), "0");
        x.bid(1, 1, 2);
        x.bidder(1);
        x.bid(2, 1, 3);
        x.bidder(1);
        x.bid(3, 1, 4);
        String[] want = {"1/4", "7/12", "13/12", "25/12"};
        for (int bidder = 0; bidder <= 3; bidder++) {
            int who = bidder;
            Check.changingNothing("47: in lowest terms", x, want[bidder], () -> x.shapley(who));
        }
        Check.beyond("47: BIDDER", x, 0, 3, Check.INDEX, bidder -> x.shapley(bidder));
        x.limit(3);
        for (int bidder = 0; bidder <= 3; bidder++) {
            int who = bidder;
            Check.changingNothing("47: OPEN", x, "-", () -> x.shapley(who));
        }
        Check.beyond("47: ahead of OPEN, BIDDER", x, 0, 3, Check.INDEX, bidder -> x.shapley(bidder));
        x.limit(4);
        Check.due("47: 4 are not more than 4", x.shapley(3), "25/12");
        x.change(0, 4);
        x.change(1, 4);
        x.change(2, 4);
        Check.due("47: whole", x.shapley(2), "1");
        x.change(3, 8);
        Check.due("47: whole with others", x.shapley(3), "5");
        x.budget(3, 4);
        Check.due("47: at most the BUDGET", x.shapley(3), "1");
        x.out(0, true);
        Check.due("47: none CAN win", x.shapley(3), "0");
    }

    private static void shares(Bundlesale x, int coins, int... want) {
        for (int bidder = 0; bidder < want.length; bidder++) {
            int who = bidder;
            Check.changingNothing("48: of " + coins, x, want[bidder], () -> x.fee(who, coins));
        }
    }

    private static void promise48() {
        Bundlesale x = new Bundlesale();
        Check.beyond("48: nobody, BIDDER", x, 0, -1, Check.INDEX, bidder -> x.fee(bidder, 5));
        x.bidder(0);
        Check.beyond("48: coins", x, 0, 9999, Check.ARGUMENT, coins -> x.fee(0, coins));
        shares(x, 9999, 0);
        x.bid(0, 1, 1);
        shares(x, 0, 0);
        shares(x, 1, 1);
        shares(x, 9999, 9999);
        for (int bidder = 1; bidder <= 3; bidder++) {
            x.bidder(1);
            x.bid(bidder, 1, bidder + 1);
        }
        Check.beyond("48: BIDDER", x, 0, 3, Check.INDEX, bidder -> x.fee(bidder, 5));
        Check.beyond("48: the BIDDER ahead of coins", x, 0, 3, Check.INDEX, bidder -> x.fee(bidder, 10000));
        // 3, 7, 13 and 25 of 48.
        shares(x, 0, 0, 0, 0, 0);
        shares(x, 1, 0, 0, 0, 1);
        shares(x, 2, 0, 0, 1, 1);
        shares(x, 48, 3, 7, 13, 25);
        shares(x, 9999, 625, 1458, 2708, 5208);
        x.limit(3);
        shares(x, 48, -9, -9, -9, -9);
        Check.beyond("48: ahead of -9, BIDDER", x, 0, 3, Check.INDEX, bidder -> x.fee(bidder, 5));
        Check.beyond("48: ahead of -9, coins", x, 0, 9999, Check.ARGUMENT, coins -> x.fee(0, coins));
        x.limit(4);
        shares(x, 48, 3, 7, 13, 25);
        for (int bidder = 0; bidder <= 3; bidder++) {
            x.budget(bidder, 0);
        }
        shares(x, 9999, 0, 0, 0, 0);
    }

    /** Alike parts behind the point: by number. */
    private static void alikeParts() {
        Bundlesale x = Houses.with(0, 0, 0, 0);
        for (int bidder = 0; bidder <= 3; bidder++) {
            x.bid(bidder, 1 << bidder, 10);
        }
        shares(x, 4, 1, 1, 1, 1);
        shares(x, 5, 2, 1, 1, 1);
        shares(x, 6, 2, 2, 1, 1);
        shares(x, 7, 2, 2, 2, 1);
        shares(x, 8, 2, 2, 2, 2);
        x.withdraw(0);
        shares(x, 1, 0, 1, 0, 0);
        shares(x, 2, 0, 1, 1, 0);
        shares(x, 3, 0, 1, 1, 1);
    }

    public static void main(String[] args) {
        promise44();
        atMostOneEach();
        promise45();
        notInTheMarket();
        promise46();
        promise47();
        promise48();
        alikeParts();
        Check.end("MatchedEdgesTest");
    }
}
