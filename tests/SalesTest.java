/** Promises 27 to 35: what is asked of sales. */
public final class SalesTest {
    /** Two who want a pair together, and one who wants both pairs: RULE 1 is too little for that one. */
    private static Bundlesale pairs() {
        Bundlesale x = Houses.with(0, 1, 0);
        x.bid(0, 3, 20);
        x.bid(1, 12, 20);
        x.bid(2, 15, 31);
        return x;
    }

    private static void promise27() {
        Bundlesale x = Houses.with(1, 1, 0);
        Check.due("27: none", x.sale(), "");
        x.bid(0, 3, 10);
        x.bid(1, 1, 5);
        x.bid(1, 2, 5);
        Check.due("27: fewer bids of the same worth", x.sale(), "0");
        x.change(1, 6);
        Check.due("27: more worth", x.sale(), "1 2");
        x.bid(2, 1, 6);
        Check.due("27: the smaller number", x.sale(), "1 2");
        x.change(3, 7);
        Check.due("27: of two bidders", x.sale(), "2 3");
        x.bid(2, 32, 50);
        Check.due("27: FORM 0 has but one", x.sale(), "1 2 4");
        x.budget(2, 0);
        Check.due("27: without worth it has none", x.sale(), "1 2");
        x.budget(1, 6);
        Check.due("27: no more than the budget", x.sale(), "0");
        x.limit(4);
        Check.due("27: quick, by value for a good", x.sale(), "1 2 4");
    }

    private static void quickOrder() {
        Bundlesale x = Houses.with(1, 0);
        x.bid(0, 7, 30);
        x.bid(0, 24, 20);
        x.bid(1, 32, 10);
        x.bid(1, 8, 11);
        x.limit(3);
        Check.due("27: quick, alike ones by number", x.sale(), "0 3");
        x.change(3, 10);
        Check.due("27: quick, all alike", x.sale(), "0 1 2");
        x.join(5, 4, true);
        Check.due("27: quick, for a good of the whole", x.sale(), "0 3");
        Check.due("27: quick, its worth", x.bound(false), 40);
    }

    private static void promise28() {
        Bundlesale x = Houses.with(1, 0);
        Check.due("28: none, low", x.bound(false), 0);
        Check.due("28: none, high", x.bound(true), 0);
        x.bid(0, 3, 20);
        x.bid(0, 6, 15);
        x.bid(1, 1, 9);
        x.bid(1, 12, 8);
        x.bid(1, 32, 40);
        Check.due("28: low", x.bound(false), 60);
        Check.due("28: high is the same", x.bound(true), 60);
        x.out(5, true);
        Check.due("28: without that good", x.bound(true), 28);
        x.limit(3);
        Check.due("28: open, low", x.bound(false), 28);
        Check.due("28: open, high", x.bound(true), 44);
        x.budget(0, 30);
        Check.due("28: open, high with a budget", x.bound(true), 39);
        x.budget(1, 0);
        Check.due("28: open, high with another", x.bound(true), 30);
        x.budget(1, -1);
        x.out(0, true);
        Check.due("28: fewer can win: not open", x.bound(true), 15);
    }

    private static void promise29() {
        Bundlesale x = Houses.with(1, 1);
        Check.due("29: only the empty one", x.count(), 1);
        x.bid(0, 1, 5);
        x.bid(1, 1, 5);
        Check.due("29: two", x.count(), 2);
        x.bid(0, 2, 5);
        Check.due("29: two still", x.count(), 2);
        x.budget(0, 5);
        Check.due("29: bidder 1 gets good 0", x.count(), 1);
        x.budget(1, 0);
        Check.due("29: also those without worth", x.count(), 4);
        x.limit(2);
        Check.due("29: open", x.count(), -9);
    }

    private static void promise30() {
        Bundlesale x = Houses.with(0, 1, 0);
        x.bid(0, 1, 10);
        x.bid(1, 1, 8);
        x.bid(1, 2, 7);
        x.bid(2, 3, 16);
        int[] want = {0, 10, 15, 17, 16, 16, 16, 17};
        for (int group = 0; group < 8; group++) {
            Check.due("30: worth(" + group + ")", x.worth(group), want[group]);
        }
        Check.throwing("30: bidder 3", Check.ARGUMENT, () -> x.worth(8));
        Check.throwing("30: bidders 3 and 0", Check.ARGUMENT, () -> x.worth(9));
        Check.throwing("30: -1", Check.ARGUMENT, () -> x.worth(-1));
        x.limit(3);
        Check.due("30: open", x.worth(7), -9);
        Check.throwing("30: a throw ahead of -9", Check.ARGUMENT, () -> x.worth(16));
        x.bidder(0);
        Check.throwing("30: 16", Check.ARGUMENT, () -> x.worth(16));
        x.limit(16);
        Check.due("30: all", x.worth(15), 17);
    }

    private static void promise31() {
        Bundlesale x = Houses.with(1, 0);
        x.bid(0, 1, 30);
        x.bid(0, 4, 20);
        x.bid(1, 2, 9);
        x.join(2, 5, true);
        Check.due("31: goods", x.gets(0, 0), 37);
        Check.due("31: has", x.gets(0, 1), 50);
        Check.due("31: paid", x.gets(0, 2), 0);
        Check.due("31: goods of 1", x.gets(1, 0), 2);
        x.budget(0, 35);
        Check.due("31: at most the budget", x.gets(0, 1), 35);
        x.limit(2);
        Check.due("31: of the quick sale too", x.gets(0, 0), 37);
        x.limit(16);
        x.sell(0);
        Check.due("31: paid then", x.gets(0, 2), 35);
        Check.due("31: paid by 1", x.gets(1, 2), 9);
        Check.due("31: gets no more", x.gets(0, 0), 0);
        Check.throwing("31: bidder 2", Check.INDEX, () -> x.gets(2, 3));
        Check.throwing("31: bidder -1", Check.INDEX, () -> x.gets(-1, 0));
        Check.throwing("31: what 3", Check.ARGUMENT, () -> x.gets(0, 3));
        Check.throwing("31: what -1", Check.ARGUMENT, () -> x.gets(0, -1));
    }

    private static void promise32() {
        Bundlesale x = pairs();
        int[][] want = {{20, 11, 15}, {20, 11, 16}, {0, 0, 0}};
        for (int bidder = 0; bidder < 3; bidder++) {
            for (int rule = 0; rule <= 2; rule++) {
                Check.due("32: pays(" + bidder + "," + rule + ")", x.pays(bidder, rule), want[bidder][rule]);
            }
        }
        x.change(2, 39);
        Check.due("32: near RULE 0", x.pays(0, 2), 19);
        Check.due("32: near RULE 0", x.pays(1, 2), 20);
        x.change(2, 32);
        x.budget(0, 13);
        Check.due("32: RULE 1 with a budget", x.pays(1, 1), 19);
        Check.due("32: the other one too", x.pays(0, 2), 12);
        Check.due("32: a coin more", x.pays(1, 2), 20);
        Check.throwing("32: bidder 3", Check.INDEX, () -> x.pays(3, 3));
        Check.throwing("32: bidder -1", Check.INDEX, () -> x.pays(-1, 0));
        Check.throwing("32: rule 3", Check.ARGUMENT, () -> x.pays(0, 3));
        Check.throwing("32: rule -1", Check.ARGUMENT, () -> x.pays(0, -1));
        x.limit(2);
        Check.due("32: open", x.pays(0, 2), -9);
        Check.throwing("32: a throw ahead of -9", Check.ARGUMENT, () -> x.pays(0, 3));
    }

    /** Three of whom each two are asked for one coin together: two coins are needed, where halves would do with less. */
    private static void wholeCoins() {
        Bundlesale x = Houses.with(0, 0, 0, 1);
        x.bid(0, 1, 10);
        x.bid(1, 2, 10);
        x.bid(2, 4, 10);
        x.bid(3, 3, 11);
        x.bid(3, 6, 11);
        x.bid(3, 5, 11);
        Check.due("32: sale", x.sale(), "0 1 2");
        Check.due("32: RULE 1", x.pays(0, 1) + x.pays(1, 1) + x.pays(2, 1), 3);
        Check.due("32: 0 pays", x.pays(0, 2), 5);
        Check.due("32: 1 pays", x.pays(1, 2), 6);
        Check.due("32: 2 pays", x.pays(2, 2), 6);
        Check.due("32: cuts", x.cuts(), "9 12 10");
    }

    private static void boundByRuleZero() {
        Bundlesale x = Houses.with(0, 0, 0, 0);
        x.bid(0, 1, 12);
        x.bid(1, 2, 20);
        x.bid(2, 4, 20);
        x.bid(3, 1, 10);
        x.bid(3, 7, 40);
        int[][] want = {{12, 10, 12}, {20, 8, 14}, {20, 8, 14}, {0, 0, 0}};
        for (int bidder = 0; bidder < 4; bidder++) {
            for (int rule = 0; rule <= 2; rule++) {
                Check.due("32: bound, pays(" + bidder + "," + rule + ")", x.pays(bidder, rule), want[bidder][rule]);
            }
        }
        x.change(4, 41);
        Check.due("32: an odd coin, bidder 0", x.pays(0, 2), 12);
        Check.due("32: an odd coin, bidder 1", x.pays(1, 2), 14);
        Check.due("32: an odd coin, bidder 2", x.pays(2, 2), 15);
        Check.due("33: the fourth one", x.cuts(), "8");
    }

    private static void promise33() {
        Bundlesale x = Houses.with();
        Check.due("33: none", x.cuts(), "");
        Bundlesale y = pairs();
        Check.due("33: the third one", y.cuts(), "4");
        y.change(2, 1);
        Check.due("33: with a coin still", y.cuts(), "4");
        y.withdraw(2);
        Check.due("33: nobody is in the way", y.cuts(), "");
        y.limit(1);
        Check.due("33: open", y.cuts(), "-");
        Bundlesale z = Houses.with(1, 1, 1, 0);
        z.bid(0, 1, 20);
        z.bid(1, 2, 20);
        z.bid(2, 4, 20);
        z.bid(3, 3, 30);
        z.bid(3, 6, 34);
        Check.due("33: two cuts, the greater lack first", z.cuts(), "9 12");
    }

    private static void promise34() {
        Bundlesale x = Houses.with(0, 1);
        x.bid(0, 1, 30);
        x.bid(1, 1, 20);
        x.bid(1, 2, 10);
        Check.due("34: less told, less paid", x.gain(0, 21, 0), 9);
        Check.due("34: too little told", x.gain(0, 19, 0), 0);
        Check.due("34: by RULE 1 it wins nothing by it", x.gain(0, 21, 1), 0);
        Check.due("34: it loses what it would gain", x.gain(0, 19, 1), -10);
        Check.due("34: too much told", x.gain(1, 99, 0), -79);
        Check.due("34: too much told, RULE 1", x.gain(1, 99, 1), -10);
        Check.due("34: as it is", x.gain(2, 10, 0), 0);
        x.budget(1, 15);
        Check.due("34: at most its budget", x.gain(1, 99, 0), 0);
        Check.due("34: another one of it", x.gain(2, 99, 0), -5);
        Check.throwing("34: bid 3", Check.INDEX, () -> x.gain(3, 0, 0));
        Check.throwing("34: bid -1", Check.INDEX, () -> x.gain(-1, 1, 0));
        Check.throwing("34: value 0", Check.ARGUMENT, () -> x.gain(0, 0, 0));
        Check.throwing("34: value 100", Check.ARGUMENT, () -> x.gain(0, 100, 0));
        Check.throwing("34: rule 2", Check.ARGUMENT, () -> x.gain(0, 5, 2));
        Check.throwing("34: rule -1", Check.ARGUMENT, () -> x.gain(0, 5, -1));
        x.limit(0);
        Check.due("34: open", x.gain(0, 5, 0), -9999);
        Check.throwing("34: a throw ahead of open", Check.ARGUMENT, () -> x.gain(0, 5, 2));
        Check.due("34: the bids stay", x.list(), "0:0=30;1:0=20;1:1=10");
    }

    private static void promise35() {
        Bundlesale x = Houses.with(0, 1);
        x.bid(0, 1, 30);
        x.bid(1, 1, 20);
        x.bid(1, 2, 10);
        Check.due("35: alike bids: the first one wins", x.lie(0, 0), 20);
        Check.due("35: a bid without a rival", x.lie(2, 0), 1);
        Check.due("35: none by RULE 1", x.lie(0, 1), -1);
        Check.due("35: none for who loses", x.lie(1, 0), -1);
        x.change(2, 1);
        Check.due("35: no less can be told", x.lie(2, 0), -1);
        Check.throwing("35: bid 3", Check.INDEX, () -> x.lie(3, 2));
        Check.throwing("35: bid -1", Check.INDEX, () -> x.lie(-1, 0));
        Check.throwing("35: rule 2", Check.ARGUMENT, () -> x.lie(0, 2));
        Check.throwing("35: rule -1", Check.ARGUMENT, () -> x.lie(0, -1));
        x.limit(2);
        Check.due("35: open", x.lie(0, 0), -1);
    }

    public static void main(String[] args) {
        promise27();
        quickOrder();
        promise28();
        promise29();
        promise30();
        promise31();
        promise32();
        wholeCoins();
        boundByRuleZero();
        promise33();
        promise34();
        promise35();
        Check.end("SalesTest");
    }
}
