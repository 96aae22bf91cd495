/** Promises 36 to 39: what is asked of prices. */
public final class PricesTest {
    private static void promise36() {
        Bundlesale x = Houses.with(0, 1);
        Check.due("36: none", x.demand(0), "");
        x.bid(0, 1, 10);
        x.bid(0, 2, 10);
        x.bid(1, 1, 10);
        x.bid(1, 2, 9);
        x.bid(1, 3, 19);
        Check.due("36: the first of alike ones", x.demand(0), "0");
        Check.due("36: fewer bids", x.demand(1), "4");
        x.price(0, 1);
        Check.due("36: the cheaper one", x.demand(0), "1");
        x.price(1, 9);
        Check.due("36: nothing is left of one: fewer bids", x.demand(1), "2");
        x.price(0, 10);
        Check.due("36: nothing is left", x.demand(1), "");
        x.price(0, 0);
        x.price(1, 0);
        x.budget(1, 10);
        Check.due("36: a budget", x.demand(1), "2");
        x.price(0, 1);
        Check.due("36: a budget and a price", x.demand(1), "2");
        x.price(0, 2);
        Check.due("36: a budget and a greater price", x.demand(1), "3");
        x.join(1, 5, true);
        x.price(5, 3);
        Check.due("36: all goods of the whole", x.demand(1), "2");
        x.out(0, true);
        Check.due("36: only what can win", x.demand(1), "3");
        x.limit(0);
        Check.due("36: open or not", x.demand(1), "3");
        Check.throwing("36: bidder 2", Check.INDEX, () -> x.demand(2));
        Check.throwing("36: bidder -1", Check.INDEX, () -> x.demand(-1));
    }

    private static void promise37() {
        Bundlesale x = Houses.with(0, 0);
        Check.due("37: nothing and no prices", x.hold(), true);
        x.price(3, 1);
        Check.due("37: a price without a buyer", x.hold(), false);
        x.out(3, true);
        Check.due("37: not of one that is out", x.hold(), true);
        x.bid(0, 1, 30);
        x.bid(1, 1, 20);
        Check.due("37: the other one wants it", x.hold(), false);
        x.price(0, 20);
        Check.due("37: at the second price", x.hold(), true);
        x.price(0, 30);
        Check.due("37: at the first price", x.hold(), true);
        x.price(0, 31);
        Check.due("37: above", x.hold(), false);
        x.price(0, 19);
        Check.due("37: below", x.hold(), false);
        x.price(0, 25);
        x.limit(1);
        Check.due("37: open", x.hold(), false);
        x.limit(2);
        Check.due("37: not open", x.hold(), true);
        x.budget(0, 24);
        Check.due("37: a budget", x.hold(), false);
    }

    private static void promise38() {
        Bundlesale x = Houses.with();
        Check.due("38: no bidders", x.clock(5, true), "1 0 0 0 0 0 0");
        Bundlesale y = Houses.with(1, 0, 0);
        y.bid(0, 1, 12);
        y.bid(1, 1, 23);
        y.bid(2, 6, 9);
        Check.due("38: until one is left", y.clock(5, false), "4 15 0 0 0 0 0 0 1 6");
        Check.due("38: a greater step", y.clock(12, false), "2 12 0 0 0 0 0 0 1 6");
        Check.due("38: the greatest step", y.clock(50, false), "2 50 0 0 0 0 0 0 0 6");
        y.limit(0);
        y.price(0, 99);
        Check.due("38: other prices and open", y.clock(5, true), "4 15 0 0 0 0 0 0 1 6");
        Check.throwing("38: step 4", Check.ARGUMENT, () -> y.clock(4, false));
        Check.throwing("38: step 51", Check.ARGUMENT, () -> y.clock(51, true));
        // Bidder 0 goes from one good to two, when that one is dear: with ACTIVITY it can't.
        Bundlesale z = Houses.with(0, 0);
        z.bid(0, 1, 20);
        z.bid(0, 6, 14);
        z.bid(1, 1, 40);
        Check.due("38: without activity", z.clock(10, false), "2 10 0 0 0 0 0 6 1");
        Check.due("38: with activity", z.clock(10, true), "3 20 0 0 0 0 0 0 1");
    }

    private static void promise39() {
        Bundlesale x = Houses.with();
        Check.due("39: no bidders", x.proxy(5), "1");
        Bundlesale y = Houses.with(0, 1);
        Check.due("39: no bids", y.proxy(5), "1 0 0");
        y.bid(0, 1, 30);
        y.bid(1, 1, 20);
        // 10 and 10, 20 and 10, 20 and 20: the first one stays ahead.
        Check.due("39: two", y.proxy(10), "4 20 0");
        y.change(1, 19);
        Check.due("39: below a step", y.proxy(10), "2 10 0");
        y.change(1, 21);
        y.change(0, 20);
        Check.due("39: a step above", y.proxy(7), "5 0 21");
        y.budget(1, 13);
        Check.due("39: a budget", y.proxy(7), "5 14 0");
        Bundlesale z = Houses.with(0, 0);
        z.bid(0, 1, 20);
        z.bid(0, 2, 20);
        z.bid(1, 3, 30);
        Check.due("39: the first of alike ones, then the other", z.proxy(10), "7 0 30");
        z.limit(0);
        z.price(0, 50);
        Check.due("39: open, and with prices", z.proxy(10), "7 0 30");
        z.out(0, true);
        Check.due("39: only what can win", z.proxy(10), "2 10 0");
        Check.throwing("39: step 4", Check.ARGUMENT, () -> z.proxy(4));
        Check.throwing("39: step 51", Check.ARGUMENT, () -> z.proxy(51));
        z.out(0, false);
        Check.due("39: step 50", z.proxy(50), "1 0 0");
    }

    public static void main(String[] args) {
        promise36();
        promise37();
        promise38();
        promise39();
        Check.end("PricesTest");
    }
}
