/** Promises 36 to 39 at their edges, with what section 4 tells of them. */
public final class PricesEdgesTest {
    private static void promise36() {
        Bundlesale none = new Bundlesale();
        Check.beyond("36: nobody, BIDDER", none, 0, -1, Check.INDEX, bidder -> none.demand(bidder));
        Bundlesale x = Houses.with(0, 1, 0, 1);
        Check.beyond("36: BIDDER", x, 0, 3, Check.INDEX, bidder -> x.demand(bidder));
        Check.changingNothing("36: without BIDS", x, "", () -> x.demand(3));
        x.bid(3, 32, 99);
        x.price(5, 98);
        Check.changingNothing("36: 1 is left", x, "0", () -> x.demand(3));
        x.price(5, 99);
        Check.due("36: 0 is left: fewer BIDS", x.demand(3), "");
        x.change(0, 98);
        Check.due("36: less than 0 is left", x.demand(3), "");
        x.price(5, 0);
        x.out(5, true);
        Check.due("36: what can't win", x.demand(3), "");
        Bundlesale y = Houses.withBids(15, 0, 1);
        y.bid(1, 32, 1);
        Check.due("36: the 16th BID", y.demand(1), "15");
        y.limit(0);
        Check.due("36: LIMIT 0", y.demand(1), "15");
    }

    private static void demandOfMany() {
        Bundlesale x = Houses.with(1, 0);
        for (int good = 0; good < 6; good++) {
            x.bid(0, 1 << good, 10);
            x.price(good, 9);
        }
        Check.due("36: all six GOODS", x.demand(0), "0 1 2 3 4 5");
        x.budget(0, 60);
        Check.due("36: just the BUDGET", x.demand(0), "0 1 2 3 4 5");
        x.budget(0, 59);
        Check.due("36: the sixth would cost what it leaves more", x.demand(0), "0 1 2 3 4");
        x.budget(0, 9);
        Check.due("36: the BUDGET is the PRICE", x.demand(0), "");
        x.budget(0, -1);
        x.price(5, 10);
        Check.due("36: but that of which nothing is left", x.demand(0), "0 1 2 3 4");
        x.join(4, 5, true);
        Check.due("36: PRICES of all GOODS of its WHOLE", x.demand(0), "0 1 2 3");
        x.bid(1, 1, 20);
        x.bid(1, 2, 20);
        x.bid(1, 7, 38);
        Check.due("36: alike: the smaller number", x.demand(1), "6");
        x.price(0, 10);
        Check.due("36: 1 more is left", x.demand(1), "7");
        x.change(8, 39);
        Check.due("36: alike, of three GOODS", x.demand(1), "7");
        x.change(8, 40);
        Check.due("36: 1 more is left of three GOODS", x.demand(1), "8");
        x.price(2, 10);
        Check.due("36: alike again", x.demand(1), "7");
    }

    private static void promise37() {
        for (int good = 0; good <= 5; good++) {
            Bundlesale x = Houses.with(0);
            Check.changingNothing("37: nothing, PRICES 0", x, true, () -> x.hold());
            x.price(good, 1);
            Check.changingNothing("37: PRICE 1 of " + good + ", LIVE, in no SALE", x, false, () -> x.hold());
            x.out(good, true);
            Check.due("37: OUT", x.hold(), true);
            x.out(good, false);
            x.bid(0, 1 << good, 1);
            Check.due("37: PRICE is the VALUE", x.hold(), true);
            x.price(good, 2);
            Check.due("37: PRICE is 1 above the VALUE", x.hold(), false);
            x.sell(0);
            Check.due("37: SOLD", x.hold(), true);
            x.giveUp(good);
            Check.due("37: given back", x.hold(), false);
        }
    }

    private static void holdOfMany() {
        Bundlesale x = Houses.with(1, 0);
        for (int good = 0; good < 6; good++) {
            x.bid(0, 1 << good, 10);
            x.price(good, 10);
        }
        x.bid(1, 63, 50);
        Check.due("37: all six in the BEST", x.hold(), true);
        x.price(0, 0);
        Check.due("37: just 50 for all", x.hold(), true);
        x.price(1, 9);
        Check.due("37: 49 for all: the other one wants them", x.hold(), false);
        x.price(1, 10);
        x.limit(7);
        Check.due("37: 7 are not more than 7", x.hold(), true);
        x.limit(6);
        Check.due("37: OPEN", x.hold(), false);
        x.limit(0);
        Check.due("37: LIMIT 0", x.hold(), false);
        for (int good = 0; good < 6; good++) {
            x.out(good, true);
        }
        Check.due("37: LIMIT 0, but none CAN win", x.hold(), true);
    }

    private static void promise38() {
        Bundlesale x = Houses.with();
        Check.beyond("38: step", x, 5, 50, Check.ARGUMENT, step -> x.clock(step, false));
        Check.beyond("38: step, with ACTIVITY", x, 5, 50, Check.ARGUMENT, step -> x.clock(step, true));
        Check.changingNothing("38: nobody", x, "1 0 0 0 0 0 0", () -> x.clock(50, false));
        x.bidder(0);
        x.bidder(1);
        Check.due("38: without BIDS", x.clock(5, true), "1 0 0 0 0 0 0 0 0");
        x.bid(0, 63, 60);
        Check.due("38: one alone", x.clock(5, true), "1 0 0 0 0 0 0 63 0");
        x.bid(1, 63, 90);
        Check.changingNothing("38: all six rise", x, "3 10 10 10 10 10 10 0 63", () -> x.clock(5, true));
        x.change(0, 61);
        Check.due("38: 1 is left: one more round", x.clock(5, false), "4 15 15 15 15 15 15 0 0");
        x.change(0, 59);
        Check.due("38: less is left", x.clock(5, false), "3 10 10 10 10 10 10 0 63");
        x.out(3, true);
        Check.due("38: none CAN win", x.clock(5, false), "1 0 0 0 0 0 0 0 0");
    }

    private static void longClocks() {
        Bundlesale x = Houses.with(0, 1, 0, 1);
        for (int bidder = 0; bidder <= 3; bidder++) {
            x.bid(bidder, 32, 99);
        }
        Check.due("38: the least step, four want it", x.clock(5, true), "21 0 0 0 0 0 100 0 0 0 0");
        Check.due("38: the greatest step", x.clock(50, true), "3 0 0 0 0 0 100 0 0 0 0");
        Check.due("38: 99 less 98 is left", x.clock(49, false), "4 0 0 0 0 0 147 0 0 0 0");
        x.budget(0, 12);
        x.budget(1, 10);
        x.budget(2, 9);
        x.budget(3, 15);
        Check.due("38: BUDGETS", x.clock(5, false), "4 0 0 0 0 0 15 0 0 0 0");
        x.budget(3, 16);
        Check.due("38: one has 1 more", x.clock(5, false), "4 0 0 0 0 0 15 0 0 0 32");
        x.limit(0);
        Check.due("38: LIMIT 0", x.clock(5, false), "4 0 0 0 0 0 15 0 0 0 32");
    }

    private static void teamsOnTheClock() {
        Bundlesale x = Houses.with(0, 0);
        x.bid(0, 1, 12);
        x.bid(1, 2, 20);
        Check.due("38: no GOOD is wanted by two", x.clock(5, false), "1 0 0 0 0 0 0 1 2");
        x.join(0, 1, true);
        Check.due("38: the TEAM is", x.clock(5, false), "3 10 10 0 0 0 0 0 0");
        x.change(1, 21);
        Check.due("38: 1 is left of it", x.clock(5, false), "3 10 10 0 0 0 0 0 3");
    }

    /** With ACTIVITY a BIDDER may go from one GOOD to another one, but not to two. */
    private static void activity() {
        Bundlesale x = Houses.with(0, 0);
        x.bid(0, 1, 20);
        x.bid(0, 2, 15);
        x.bid(1, 1, 40);
        Check.due("38: to another GOOD", x.clock(10, true), "2 10 0 0 0 0 0 2 1");
        x.join(1, 5, true);
        Check.due("38: not to a TEAM of two", x.clock(10, true), "3 20 0 0 0 0 0 0 1");
        Check.due("38: but without ACTIVITY", x.clock(10, false), "2 10 0 0 0 0 0 34 1");
        x.join(1, 5, false);
        x.join(0, 4, true);
        Check.due("38: from two to one", x.clock(10, true), "2 10 0 0 0 10 0 2 17");
        Bundlesale y = Houses.with(1, 1);
        for (int good = 0; good < 6; good++) {
            y.bid(0, 1 << good, 7);
        }
        y.bid(1, 63, 24);
        Check.due("38: six GOODS are let in the first round", y.clock(5, true), "2 5 5 5 5 5 5 63 0");
    }

    private static void promise39() {
        Bundlesale x = Houses.with();
        Check.beyond("39: step", x, 5, 50, Check.ARGUMENT, step -> x.proxy(step));
        Check.changingNothing("39: nobody", x, "1", () -> x.proxy(5));
        x.bidder(0);
        Check.due("39: without BIDS", x.proxy(50), "1 0");
        x.bid(0, 32, 5);
        Check.changingNothing("39: VALUE is a step", x, "2 5", () -> x.proxy(5));
        x.change(0, 4);
        Check.due("39: VALUE is less than a step", x.proxy(5), "1 0");
        x.change(0, 99);
        Check.due("39: it wins with a step", x.proxy(50), "2 50");
        x.budget(0, 49);
        Check.due("39: at most its BUDGET", x.proxy(50), "2 49");
        x.budget(0, 0);
        Check.due("39: without a coin it never wins", x.proxy(50), "2 0");
        Check.due("39: but raises as long as it can", x.proxy(5), "20 0");
        x.budget(0, -1);
        x.limit(0);
        Check.due("39: LIMIT 0", x.proxy(5), "2 5");
        x.out(5, true);
        Check.due("39: none CAN win", x.proxy(5), "1 0");
    }

    private static void twoProxies() {
        Bundlesale x = Houses.with(0, 0);
        x.bid(0, 1, 20);
        x.bid(1, 1, 20);
        // Offers 5 5, 5 10, 10 10, 10 15, 15 15, 15 20, 20 20: of alike ones the first wins.
        Check.due("39: both go up to their VALUE", x.proxy(5), "8 20 0");
        x.change(1, 24);
        Check.due("39: 4 above is not a step", x.proxy(5), "8 20 0");
        x.change(1, 25);
        Check.due("39: 5 above is", x.proxy(5), "9 0 25");
        x.budget(0, 7);
        Check.due("39: a BUDGET below", x.proxy(5), "6 0 10");
        x.budget(0, 10);
        Check.due("39: a BUDGET of as much", x.proxy(5), "7 0 15");
        Bundlesale y = Houses.with(0, 0);
        y.bid(0, 1, 30);
        y.bid(0, 2, 21);
        y.bid(1, 1, 99);
        Check.due("39: the other BID has 1 more", y.proxy(10), "4 10 20");
        y.change(1, 20);
        Check.due("39: alike: the first BID", y.proxy(10), "6 10 30");
        Bundlesale six = Houses.with(0, 1);
        six.bid(0, 63, 9);
        Check.due("39: all six GOODS", six.proxy(5), "2 5 0");
        six.bid(1, 32, 4);
        Check.due("39: all six GOODS beside one that can't raise", six.proxy(5), "2 5 0");
        Bundlesale z = Houses.with(1);
        z.bid(0, 1, 10);
        z.bid(0, 2, 11);
        Check.due("39: who has a BID in it raises no other one", z.proxy(5), "2 5");
    }

    public static void main(String[] args) {
        promise36();
        demandOfMany();
        promise37();
        holdOfMany();
        promise38();
        longClocks();
        teamsOnTheClock();
        activity();
        promise39();
        twoProxies();
        Check.end("PricesEdgesTest");
    }
}
