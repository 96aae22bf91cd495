/** Promises 44 to 48: what is asked of matched markets and shares. */
public final class MatchedTest {
    private static Bundlesale three() {
        Bundlesale x = Houses.with(0, 1, 0);
        x.bid(0, 1, 10);
        x.bid(0, 2, 8);
        x.bid(1, 1, 9);
        x.bid(1, 2, 4);
        x.bid(2, 2, 5);
        return x;
    }

    private static void promise44() {
        Check.due("44: no bidders", Houses.with().matched(), "");
        Check.due("44: no bids", Houses.with(0, 0).matched(), "- -");
        Bundlesale x = three();
        Check.due("44: the greatest sum", x.matched(), "1 0 -");
        x.change(4, 7);
        Check.due("44: a greater one of three that are alike", x.matched(), "0 - 1");
        x.change(4, 8);
        Check.due("44: another", x.matched(), "0 - 1");
        x.change(1, 9);
        Check.due("44: alike sums: bidder 0 has the smaller good", x.matched(), "0 - 1");
        x.budget(2, 6);
        Check.due("44: a budget", x.matched(), "1 0 -");
        x.limit(0);
        Check.due("44: open or not", x.matched(), "1 0 -");
        x.join(0, 5, true);
        Check.due("44: a team is no good of it", x.matched(), "1 - -");
        x.out(1, true);
        Check.due("44: out", x.matched(), "- - -");
        Bundlesale y = Houses.with(0, 0);
        y.bid(0, 1, 5);
        y.bid(1, 1, 5);
        Check.due("44: something ahead of nothing", y.matched(), "0 -");
        y.budget(0, 0);
        Check.due("44: never without worth", y.matched(), "- 0");
    }

    private static void promise45() {
        Bundlesale x = three();
        // The greatest sum is 8 + 9; with good 0 twice 10 + 9 + 5, with good 1 twice 8 + 9 + 5 or more; without 0: 8.
        Check.due("45: least of 0", x.edge(0, true), 7);
        Check.due("45: most of 0", x.edge(0, false), 9);
        Check.due("45: least of 1", x.edge(1, true), 5);
        Check.due("45: most of 1", x.edge(1, false), 7);
        Check.due("45: least of 2", x.edge(2, true), 0);
        Check.due("45: most of 2", x.edge(2, false), 0);
        x.limit(0);
        Check.due("45: open or not", x.edge(0, true), 7);
        x.join(3, 4, true);
        Check.due("45: a team", x.edge(4, false), -9);
        x.out(5, true);
        Check.due("45: out", x.edge(5, true), -9);
        x.limit(16);
        x.sell(0);
        Check.due("45: sold", x.edge(0, true), -9);
        Check.throwing("45: 6", Check.INDEX, () -> x.edge(6, true));
        Check.throwing("45: -1", Check.INDEX, () -> x.edge(-1, false));
        Check.due("45: without bidders", Houses.with().edge(0, true), 0);
    }

    private static void promise46() {
        Check.due("46: nothing", Houses.with().stand(), true);
        Bundlesale x = three();
        Check.due("46: without prices", x.stand(), false);
        x.price(0, 7);
        x.price(1, 5);
        Check.due("46: the least prices", x.stand(), true);
        x.price(0, 9);
        x.price(1, 7);
        Check.due("46: the greatest prices", x.stand(), true);
        x.price(0, 10);
        Check.due("46: above", x.stand(), false);
        x.price(0, 8);
        x.price(1, 6);
        Check.due("46: between", x.stand(), true);
        x.price(0, 7);
        Check.due("46: too near together", x.stand(), false);
        x.price(0, 8);
        x.price(4, 1);
        Check.due("46: a price of one that nobody wants", x.stand(), false);
        x.join(3, 4, true);
        Check.due("46: a team is not of it", x.stand(), true);
        x.limit(0);
        Check.due("46: open or not", x.stand(), true);
    }

    private static void promise47() {
        Bundlesale x = Houses.with(0, 0, 0);
        Check.due("47: nothing", x.shapley(0), "0");
        x.bid(0, 1, 12);
        x.bid(1, 1, 6);
        x.bid(2, 1, 3);
        Check.due("47: first", x.shapley(0), "17/2");
        Check.due("47: second", x.shapley(1), "5/2");
        Check.due("47: third", x.shapley(2), "1");
        x.bid(2, 2, 2);
        Check.due("47: a third", x.shapley(2), "7/3");
        Check.due("47: of two", with12().shapley(0), "19/2");
        Check.throwing("47: bidder 3", Check.INDEX, () -> x.shapley(3));
        Check.throwing("47: bidder -1", Check.INDEX, () -> x.shapley(-1));
        x.limit(0);
        Check.due("47: open", x.shapley(0), "-");
        Check.throwing("47: a throw ahead of open", Check.INDEX, () -> x.shapley(3));
    }

    private static Bundlesale with12() {
        Bundlesale x = Houses.with(0, 0);
        x.bid(0, 1, 12);
        x.bid(1, 1, 5);
        return x;
    }

    private static void promise48() {
        Bundlesale x = with12();
        Check.due("48: 9.5 of 12", x.fee(0, 12), 10);
        Check.due("48: 2.5 of 12", x.fee(1, 12), 2);
        Check.due("48: nothing", x.fee(0, 0), 0);
        Check.due("48: most", x.fee(0, 9999), 7916);
        Check.due("48: the rest", x.fee(1, 9999), 2083);
        x.change(1, 1);
        Check.due("48: the greater part behind the point", x.fee(1, 10), 0);
        Check.due("48: of 10", x.fee(0, 10), 10);
        Bundlesale y = Houses.with(0, 0, 0);
        Check.due("48: without worth", y.fee(1, 100), 0);
        y.bid(0, 1, 5);
        y.bid(1, 2, 5);
        y.bid(2, 4, 5);
        Check.due("48: alike ones by number, 0", y.fee(0, 5), 2);
        Check.due("48: alike ones by number, 1", y.fee(1, 5), 2);
        Check.due("48: alike ones by number, 2", y.fee(2, 5), 1);
        Check.throwing("48: bidder 3", Check.INDEX, () -> y.fee(3, -1));
        Check.throwing("48: bidder -1", Check.INDEX, () -> y.fee(-1, 0));
        Check.throwing("48: -1", Check.ARGUMENT, () -> y.fee(0, -1));
        Check.throwing("48: 10000", Check.ARGUMENT, () -> y.fee(0, 10000));
        y.limit(2);
        Check.due("48: open", y.fee(0, 5), -9);
        Check.throwing("48: a throw ahead of -9", Check.ARGUMENT, () -> y.fee(0, -1));
    }

    public static void main(String[] args) {
        promise44();
        promise45();
        promise46();
        promise47();
        promise48();
        Check.end("MatchedTest");
    }
}
