/** Promises 27 to 35 at their edges, with what sections 2, 3 and 6 tell of them. */
public final class SalesEdgesTest {
    private static void noBidInTheSale() {
        Bundlesale x = Houses.with(1, 0);
        Check.changingNothing("27: no BIDS", x, "", () -> x.sale());
        x.bid(0, 1, 5);
        x.bid(1, 2, 1);
        Check.due("27: both", x.sale(), "0 1");
        x.budget(0, 0);
        Check.due("27: one has no WORTH", x.sale(), "1");
        x.budget(1, 0);
        Check.due("27: none has WORTH", x.sale(), "");
        x.budget(1, 1);
        x.out(1, true);
        Check.due("27: the other one can't win", x.sale(), "");
        x.budget(0, 1);
        Check.due("27: WORTH 1 is enough", x.sale(), "0");
    }

    /** BETTER: by a greater WORTH; then by fewer BIDS; then by the smallest number that is in just one. */
    private static void better() {
        Bundlesale x = Houses.with(1, 1);
        x.bid(0, 1, 5);
        x.bid(0, 2, 5);
        x.bid(1, 3, 9);
        Check.due("27: WORTH 1 more, with more BIDS", x.sale(), "0 1");
        x.change(2, 10);
        Check.due("27: alike, fewer BIDS, though the numbers are greater", x.sale(), "2");
        x.change(2, 11);
        Check.due("27: WORTH 1 more, with fewer BIDS", x.sale(), "2");
        Bundlesale y = Houses.with(1);
        y.bid(0, 16, 7);
        y.bid(0, 3, 10);
        y.bid(0, 5, 10);
        y.bid(0, 10, 10);
        y.bid(0, 12, 10);
        Check.due("27: 0 is in both, 1 in just one", y.sale(), "0 1 4");
        Check.due("27: both have that WORTH", y.count(), 2);
        y.change(3, 11);
        Check.due("27: WORTH is ahead of that", y.sale(), "0 2 3");
        y.withdraw(0);
        y.change(2, 10);
        Check.due("27: 0 is in just one", y.sale(), "0 3");
    }

    private static void goodsInCommon() {
        Bundlesale x = Houses.with(1, 1);
        x.bid(0, 1, 5);
        x.bid(1, 2, 6);
        Check.due("27: no GOOD in common", x.sale(), "0 1");
        x.join(0, 5, true);
        Check.due("27: no GOOD of the WHOLES in common", x.sale(), "0 1");
        x.join(1, 5, true);
        Check.due("27: all GOODS of the WHOLES in common", x.sale(), "1");
        x.join(0, 5, false);
        Check.due("27: not any more", x.sale(), "0 1");
        x.bid(0, 32, 7);
        Check.due("27: of one BIDDER, too", x.sale(), "0 2");
        Bundlesale y = Houses.with(0, 0, 0, 0);
        for (int k = 0; k < 4; k++) {
            y.bid(k, 1 << k, 5);
            y.bid(k, 16, 4);
            y.bid(k, 32, 4);
        }
        Check.due("27: one each of FORM 0, though more would fit", y.sale(), "0 3 6 9");
    }

    /** That with the greatest VALUE for each GOOD first, as a fraction. */
    private static void quick() {
        Bundlesale x = Houses.with(0, 1);
        x.bid(0, 1, 16);
        x.bid(1, 3, 33);
        x.limit(1);
        Check.due("27: QUICK, 33/2 is more than 16", x.sale(), "1");
        x.change(1, 32);
        Check.due("27: QUICK, 32/2 is 16: by number", x.sale(), "0");
        x.change(1, 31);
        Check.due("27: QUICK, 31/2 is less", x.sale(), "0");
        x.limit(2);
        Check.due("27: 2 are not more than 2: BEST", x.sale(), "1");
        x.withdraw(1);
        x.bid(1, 63, 99);
        x.limit(0);
        Check.due("27: QUICK, 99/6 is more than 16", x.sale(), "1");
        x.change(0, 17);
        Check.due("27: QUICK, 99/6 is less than 17", x.sale(), "0");
        x.out(5, true);
        x.change(0, 1);
        Check.due("27: QUICK, only what CAN win", x.sale(), "0");
        x.out(0, true);
        Check.due("27: none CAN win: BEST", x.sale(), "");
    }

    private static void quickTakesWhatFits() {
        Bundlesale x = Houses.with(0, 1);
        x.bid(0, 1, 20);
        x.bid(0, 2, 19);
        x.bid(1, 1, 18);
        x.bid(1, 4, 17);
        x.bid(1, 8, 16);
        x.bid(1, 2, 1);
        x.limit(5);
        Check.due("27: QUICK, FORM 0 but one, FORM 1 all that fit", x.sale(), "0 3 4 5");
        x.budget(1, 17);
        Check.due("27: QUICK, also those without WORTH", x.sale(), "0 3 4 5");
        Check.due("28: LOW counts the BUDGET", x.bound(false), 37);
        x.budget(0, 0);
        Check.due("27: QUICK, also the first one without WORTH", x.sale(), "0 3 4 5");
        Check.due("28: LOW then", x.bound(false), 17);
    }

    /** 15 BIDS on GOODS 0 to 4, and the one that comes last in the order on a GOOD of its own. */
    private static void quickLooksAtAll() {
        Bundlesale x = Houses.with(1, 1, 1, 1);
        for (int good = 0; good < 5; good++) {
            for (int bidder = 0; bidder < 3; bidder++) {
                x.bid(bidder, 1 << good, 50 + bidder);
            }
        }
        x.bid(3, 32, 1);
        x.limit(15);
        Check.due("27: QUICK, the 16th of 16 in the order, too", x.sale(), "2 5 8 11 14 15");
        Check.due("28: LOW counts it", x.bound(false), 261);
        x.withdraw(15);
        Check.due("27: 15 are not more than 15", x.sale(), "2 5 8 11 14");
        x.limit(14);
        Check.due("27: QUICK without it", x.sale(), "2 5 8 11 14");
    }

    private static void promise28() {
        Bundlesale x = Houses.with(0, 1);
        Check.changingNothing("28: LOW without BIDS", x, 0, () -> x.bound(false));
        Check.changingNothing("28: HIGH without BIDS", x, 0, () -> x.bound(true));
        x.bid(0, 1, 20);
        x.bid(0, 2, 14);
        x.bid(1, 1, 6);
        x.bid(1, 3, 9);
        x.limit(4);
        Check.due("28: 4 are not more than 4: HIGH is LOW", x.bound(true), 20);
        x.limit(3);
        Check.due("28: OPEN, HIGH: the greatest, and the sum", x.bound(true), 35);
        int[][] ofForm0 = {{21, 35}, {20, 35}, {19, 34}, {0, 15}, {-1, 35}};
        for (int[] each : ofForm0) {
            x.budget(0, each[0]);
            Check.due("28: OPEN, HIGH, FORM 0 has " + each[0], x.bound(true), each[1]);
        }
        int[][] ofForm1 = {{16, 35}, {15, 35}, {14, 34}, {0, 20}, {-1, 35}};
        for (int[] each : ofForm1) {
            x.budget(1, each[0]);
            Check.due("28: OPEN, HIGH, FORM 1 has " + each[0], x.bound(true), each[1]);
        }
        x.limit(0);
        x.out(0, true);
        Check.due("28: OPEN, HIGH of what CAN win", x.bound(true), 14);
        Check.due("28: OPEN, LOW of what CAN win", x.bound(false), 14);
        x.out(1, true);
        Check.due("28: none CAN win, HIGH", x.bound(true), 0);
        Check.due("28: none CAN win, LOW", x.bound(false), 0);
        x.out(0, false);
        Check.due("28: OPEN, HIGH, FORM 0 without 14", x.bound(true), 26);
        x.withdraw(0);
        Check.due("28: OPEN, HIGH, FORM 0 without any", x.bound(true), 6);
    }

    private static void promise29() {
        Bundlesale none = Houses.with();
        Check.changingNothing("29: nobody: the empty one", none, 1, () -> none.count());
        Bundlesale x = Houses.withBids(16, 0);
        Check.due("29: one of 16 alike ones", x.count(), 16);
        x.change(7, 11);
        Check.due("29: one is greater", x.count(), 1);
        x.change(7, 9);
        Check.due("29: one is less", x.count(), 15);
        x.limit(15);
        Check.changingNothing("29: OPEN", x, -9, () -> x.count());
        x.withdraw(7);
        Check.due("29: 15 are not more than 15", x.count(), 15);
        x.limit(0);
        Check.due("29: LIMIT 0", x.count(), -9);
        Bundlesale y = Houses.with(1);
        for (int good = 0; good < 6; good++) {
            y.bid(0, 1 << good, 10);
        }
        Check.due("29: all six", y.count(), 1);
        y.budget(0, 10);
        Check.due("29: any but none", y.count(), 63);
        y.budget(0, 9);
        Check.due("29: any but none, too", y.count(), 63);
        y.budget(0, 0);
        Check.due("29: any and none", y.count(), 64);
        y.budget(0, 51);
        Check.due("29: just all", y.count(), 1);
        y.budget(0, 50);
        Check.due("29: five or six", y.count(), 7);
    }

    private static void promise30() {
        Bundlesale x = new Bundlesale();
        Check.beyond("30: no BIDDER, GROUP", x, 0, 0, Check.ARGUMENT, group -> x.worth(group));
        Check.changingNothing("30: nobody", x, 0, () -> x.worth(0));
        for (int many = 1; many <= 4; many++) {
            x.bidder(many & 1);
            x.bid(many - 1, 1 << many, 10 * many);
            int all = (1 << many) - 1;
            Check.beyond("30: " + many + ", GROUP", x, 0, all, Check.ARGUMENT, group -> x.worth(group));
            for (int group = all + 1; group <= 16; group++) {
                int each = group;
                Check.throwing("30: one that there is not in " + group, Check.ARGUMENT, () -> x.worth(each));
            }
            Check.due("30: none of " + many, x.worth(0), 0);
            Check.due("30: the last of " + many, x.worth(1 << many - 1), 10 * many);
            Check.due("30: all of " + many, x.worth(all), 5 * many * (many + 1));
        }
        x.limit(3);
        for (int group = 0; group <= 15; group++) {
            Check.due("30: OPEN, " + group, x.worth(group), -9);
        }
        Check.beyond("30: ahead of -9, GROUP", x, 0, 15, Check.ARGUMENT, group -> x.worth(group));
        x.limit(4);
        Check.due("30: 4 are not more than 4", x.worth(9), 50);
        x.budget(3, 39);
        Check.due("30: at most the BUDGET", x.worth(9), 49);
    }

    private static void promise31() {
        Bundlesale none = new Bundlesale();
        Check.beyond("31: nobody, BIDDER", none, 0, -1, Check.INDEX, bidder -> none.gets(bidder, 0));
        Bundlesale x = Houses.with(0, 1, 0, 1);
        Check.beyond("31: BIDDER", x, 0, 3, Check.INDEX, bidder -> x.gets(bidder, 0));
        Check.beyond("31: what", x, 0, 2, Check.ARGUMENT, what -> x.gets(3, what));
        Check.beyond("31: the BIDDER ahead of what", x, 0, 3, Check.INDEX, bidder -> x.gets(bidder, 3));
        for (int bidder = 0; bidder <= 3; bidder++) {
            for (int what = 0; what <= 2; what++) {
                int who = bidder;
                int each = what;
                Check.changingNothing("31: nothing yet", x, 0, () -> x.gets(who, each));
            }
        }
        x.bid(3, 33, 50);
        x.bid(3, 2, 40);
        x.join(1, 2, true);
        x.budget(3, 89);
        Check.due("31: GOODS of WHOLES", x.gets(3, 0), 39);
        Check.due("31: at most the BUDGET", x.gets(3, 1), 89);
        Check.due("31: nothing is paid yet", x.gets(3, 2), 0);
        x.budget(3, 90);
        Check.due("31: just the BUDGET", x.gets(3, 1), 90);
        x.sell(0);
        Check.due("31: nothing is left", x.gets(3, 0), 0);
        Check.due("31: nothing is had", x.gets(3, 1), 0);
        Check.due("31: it is paid", x.gets(3, 2), 90);
        x.giveUp(0);
        x.bid(3, 1, 9);
        x.sell(0);
        Check.due("31: more is paid", x.gets(3, 2), 99);
        Check.due("31: others paid nothing", x.gets(0, 2), 0);
    }

    private static void promise32() {
        Bundlesale none = new Bundlesale();
        Check.beyond("32: nobody, BIDDER", none, 0, -1, Check.INDEX, bidder -> none.pays(bidder, 0));
        Bundlesale x = Houses.with(0, 1, 0, 1);
        Check.beyond("32: BIDDER", x, 0, 3, Check.INDEX, bidder -> x.pays(bidder, 2));
        Check.beyond("32: RULE", x, 0, 2, Check.ARGUMENT, rule -> x.pays(3, rule));
        Check.beyond("32: the BIDDER ahead of the RULE", x, 0, 3, Check.INDEX, bidder -> x.pays(bidder, 3));
        payments("no BIDS", x, "0 0 0 0", "0 0 0 0", "0 0 0 0", "");
        x.bid(0, 1, 99);
        payments("alone", x, "99 0 0 0", "0 0 0 0", "0 0 0 0", "");
        x.bid(1, 1, 98);
        payments("the second one's VALUE", x, "99 0 0 0", "98 0 0 0", "98 0 0 0", "");
        x.bid(2, 1, 99);
        payments("alike: all of it", x, "99 0 0 0", "99 0 0 0", "99 0 0 0", "");
        x.budget(0, 98);
        payments("the BUDGET lets another one win", x, "0 0 99 0", "0 0 98 0", "0 0 98 0", "");
        x.limit(2);
        payments("OPEN", x, "-9 -9 -9 -9", "-9 -9 -9 -9", "-9 -9 -9 -9", "-");
        Check.beyond("32: ahead of -9, RULE", x, 0, 2, Check.ARGUMENT, rule -> x.pays(0, rule));
        Check.beyond("32: ahead of -9, BIDDER", x, 0, 3, Check.INDEX, bidder -> x.pays(bidder, 0));
        x.limit(3);
        payments("3 are not more than 3", x, "0 0 99 0", "0 0 98 0", "0 0 98 0", "");
    }

    private static void payments(String what, Bundlesale x, String rule0, String rule1, String rule2, String cuts) {
        String[] want = {rule0, rule1, rule2};
        for (int rule = 0; rule <= 2; rule++) {
            StringBuilder row = new StringBuilder();
            for (int bidder = 0; bidder < x.house(0); bidder++) {
                row.append(bidder == 0 ? "" : " ").append(x.pays(bidder, rule));
            }
            Check.due("32: " + what + ", RULE " + rule, row.toString(), want[rule]);
        }
        Check.changingNothing("33: " + what, x, cuts, () -> x.cuts());
    }

    /** A GROUP is in the way by a LACK of 1, and not by one of 0. */
    private static void lack() {
        Bundlesale x = Houses.with(0, 0, 0);
        x.bid(0, 1, 10);
        x.bid(1, 2, 10);
        x.bid(2, 3, 19);
        payments("LACK 1: BIDDER 0 has the least", x, "10 10 0", "9 9 0", "9 10 0", "4");
        x.change(2, 20);
        payments("alike: fewer BIDS win", x, "0 0 20", "0 0 20", "0 0 20", "");
        x.change(2, 18);
        payments("LACK 2: both alike", x, "10 10 0", "8 8 0", "9 9 0", "4");
        x.change(2, 1);
        payments("LACK 1 of nothing", x, "10 10 0", "0 0 0", "0 1 0", "4");
        x.withdraw(2);
        x.bid(2, 1, 10);
        payments("LACK 0", x, "10 10 0", "10 0 0", "10 0 0", "");
        x.change(2, 9);
        payments("LACK 0, below RULE 0", x, "10 10 0", "9 0 0", "9 0 0", "");
    }

    /** Not above RULE 0: what one can't pay the others do, and squares are of what is above RULE 1. */
    private static void nearest() {
        Bundlesale x = Houses.with(0, 0, 0);
        x.bid(0, 1, 3);
        x.bid(1, 2, 30);
        x.bid(2, 3, 20);
        payments("up to RULE 0", x, "3 30 0", "0 17 0", "1 19 0", "4");
        x.change(2, 12);
        payments("just RULE 0", x, "3 30 0", "0 9 0", "1 11 0", "4");
        x.change(0, 1);
        x.change(2, 15);
        payments("one coin at most", x, "1 30 0", "0 14 0", "0 15 0", "4");
        x.change(0, 12);
        x.change(1, 12);
        x.change(2, 17);
        x.bid(2, 1, 9);
        payments("less where RULE 1 is more", x, "12 12 0", "9 5 0", "10 7 0", "4");
        Bundlesale y = Houses.with(0, 0, 0, 0);
        y.bid(0, 1, 20);
        y.bid(1, 2, 20);
        y.bid(2, 4, 10);
        y.bid(3, 7, 31);
        payments("29 more of 19, 19 and 10: 9, 10 and 10", y, "20 20 10 0", "1 1 0 0", "10 11 10 0", "8");
        y.change(3, 32);
        payments("28 more of 18, 18 and 10: 9, 9 and 10", y, "20 20 10 0", "2 2 0 0", "11 11 10 0", "8");
        y.change(3, 40);
        payments("20 more of 10 each: 6, 7 and 7", y, "20 20 10 0", "10 10 0 0", "16 17 7 0", "8");
    }

    /** Each BIDDER wins a GOOD of its own; only GROUPS of these BIDDERS are in the way of one another. */
    private static void winnersInTheWay() {
        Bundlesale x = Houses.with(0, 0, 1, 1);
        x.bid(0, 1, 10);
        x.bid(1, 2, 10);
        x.bid(2, 4, 20);
        x.bid(3, 8, 20);
        x.bid(2, 3, 8);
        x.bid(3, 3, 8);
        payments("0 and 1 pay 8 together, as much as one can for 2 and one for 3", x,
            "10 10 20 20", "0 0 0 0", "4 4 0 0", "4 8");
        payments("a GROUP in the way of what keeps two others out of it",
            Houses.read("1111", "0:0=1;1:1=2;2:2=2;3:3=2;2:13=2;3:12=2"), "1 2 2 2", "0 0 0 0", "0 2 0 0", "4 8 5");
        payments("2 can pay no more than 2, so that 1 pays too",
            Houses.read("1001", "0:0=1;1:1=2;2:2=2;3:3=2;3:012=3;0:23=2"), "1 2 2 2", "0 0 0 0", "0 1 2 0", "8 3");
        payments("1, 2 and 3 can pay no more than 2 each",
            Houses.read("1111", "0:0=2;1:1=2;2:2=2;3:3=2;1:023=5;2:013=5;0:123=5"),
            "2 2 2 2", "1 1 1 1", "1 2 2 2", "1 4 2");
        payments("all that 1, 2 and 3 can pay",
            Houses.read("0110", "0:0=2;1:1=2;2:2=2;3:3=5;0:123=10;1:023=7;2:013=7"),
            "2 2 2 5", "0 1 1 4", "0 2 2 5", "1 4 2");
        payments("just one coin more for 0 and for 2",
            Houses.read("0111", "0:0=1;1:1=1;2:2=2;3:3=2;1:023=3;3:012=3"), "1 1 2 2", "0 0 1 0", "1 0 2 0", "2 8");
        payments("of alike ones the least of BIDDER 1", Houses.read("1111", "0:0=2;1:1=1;2:2=1;3:3=1;3:012=2;1:03=1"),
            "2 1 1 1", "0 0 0 0", "1 0 1 0", "8 6");
        payments("the least sum ahead of the squares",
            Houses.read("1011", "0:0=2;1:1=4;2:2=2;3:3=2;3:012=5;2:013=4;0:123=5"),
            "2 4 2 2", "0 1 0 0", "0 4 1 0", "1 8 4");
    }

    /** Three small ones have together what one who wants all would pay. */
    private static void threeAgainstOne() {
        payments("21 of 11, 11 and 10", Houses.read("1011", "1:1=11;2:2=10;0:0=11;3:012=21"),
            "11 11 10 0", "0 0 0 0", "7 7 7 0", "8");
        payments("21, the BIDS in another order", Houses.read("0101", "0:0=11;2:2=10;1:1=11;3:012=21"),
            "11 11 10 0", "0 0 0 0", "7 7 7 0", "8");
        payments("2 of 2, 1 and 1: the least of BIDDER 0", Houses.read("1101", "0:0=2;1:1=1;2:2=1;3:012=2"),
            "2 1 1 0", "0 0 0 0", "0 1 1 0", "8");
    }

    /** The GROUPS 3, 4 and 9 have the same LACK: 3 is the smallest set, though 4 has fewer BIDDERS. */
    private static void alikeLacks() {
        Bundlesale x = Houses.with(0, 0, 0, 0);
        x.bid(0, 1, 10);
        x.bid(0, 13, 18);
        x.bid(1, 2, 10);
        x.bid(2, 4, 10);
        x.bid(2, 15, 20);
        x.bid(3, 8, 10);
        x.bid(3, 2, 13);
        Check.due("33: all four win", x.sale(), "0 2 3 5");
        payments("three alike", x, "10 10 10 10", "0 3 1 0", "1 6 5 3", "3 9 4");
    }

    private static void promise34() {
        Bundlesale none = Houses.with(0);
        Check.beyond("34: no BID, BID", none, 0, -1, Check.INDEX, bid -> none.gain(bid, 5, 0));
        Bundlesale x = Houses.with(0, 0, 1);
        x.bid(0, 1, 50);
        x.bid(1, 1, 40);
        x.bid(2, 2, 30);
        Check.beyond("34: BID", x, 0, 2, Check.INDEX, bid -> x.gain(bid, 5, 0));
        Check.beyond("34: VALUE", x, 1, 99, Check.ARGUMENT, value -> x.gain(2, value, 1));
        Check.beyond("34: RULE", x, 0, 1, Check.ARGUMENT, rule -> x.gain(0, 5, rule));
        Check.beyond("34: the BID ahead of all", x, 0, 2, Check.INDEX, bid -> x.gain(bid, 0, 2));
        int[][] gains = {{0, 50, 0, 0}, {0, 49, 0, 1}, {0, 40, 0, 10}, {0, 39, 0, 0}, {0, 51, 0, -1}, {0, 99, 0, -49},
            {0, 1, 0, 0}, {0, 40, 1, 0}, {0, 39, 1, -10}, {0, 99, 1, 0}, {0, 1, 1, -10}, {1, 50, 0, 0},
            {1, 51, 0, -11}, {1, 99, 0, -59}, {1, 50, 1, 0}, {1, 51, 1, -10}, {1, 99, 1, -10}, {1, 1, 1, 0},
            {2, 1, 0, 29}, {2, 99, 0, -69}, {2, 1, 1, 0}, {2, 99, 1, 0}};
        for (int[] each : gains) {
            Check.changingNothing("34: gain(" + each[0] + "," + each[1] + "," + each[2] + ")", x, each[3],
                () -> x.gain(each[0], each[1], each[2]));
        }
        x.budget(2, 20);
        Check.due("34: what it pays is at most its BUDGET", x.gain(2, 99, 0), 0);
        Check.due("34: as much as the BUDGET", x.gain(2, 20, 0), 0);
        Check.due("34: less than the BUDGET", x.gain(2, 19, 0), 1);
        x.out(1, true);
        Check.due("34: what can't win gains nothing", x.gain(2, 1, 0), 0);
        x.out(1, false);
        x.limit(2);
        Check.changingNothing("34: OPEN", x, -9999, () -> x.gain(0, 40, 0));
        Check.due("34: OPEN, RULE 1", x.gain(2, 1, 1), -9999);
        Check.beyond("34: ahead of -9999, BID", x, 0, 2, Check.INDEX, bid -> x.gain(bid, 5, 0));
        Check.beyond("34: ahead of -9999, VALUE", x, 1, 99, Check.ARGUMENT, value -> x.gain(0, value, 0));
        Check.beyond("34: ahead of -9999, RULE", x, 0, 1, Check.ARGUMENT, rule -> x.gain(0, 5, rule));
        x.limit(3);
        Check.due("34: 3 are not more than 3", x.gain(0, 40, 0), 10);
        Bundlesale y = Houses.with(1, 0);
        for (int good = 0; good <= 5; good++) {
            y.bid(0, 1 << good, 10);
        }
        y.bid(1, 63, 51);
        Check.due("34: six GOODS, 52 are told, which wins", y.gain(5, 2, 0), 8);
        Check.due("34: six GOODS, 51 are told, which loses", y.gain(5, 1, 0), 0);
        Check.due("34: six GOODS, RULE 1, it wins", y.gain(5, 2, 1), 0);
        Check.due("34: six GOODS, RULE 1, it loses 60 less 51", y.gain(5, 1, 1), -9);
        Check.due("35: six GOODS", y.lie(5, 0), 2);
    }

    private static void promise35() {
        Bundlesale none = Houses.with(0);
        Check.beyond("35: no BID, BID", none, 0, -1, Check.INDEX, bid -> none.lie(bid, 0));
        Bundlesale x = Houses.with(0, 0, 0);
        x.bid(0, 1, 99);
        x.bid(1, 1, 98);
        x.bid(2, 2, 2);
        Check.beyond("35: BID", x, 0, 2, Check.INDEX, bid -> x.lie(bid, 0));
        Check.beyond("35: RULE", x, 0, 1, Check.ARGUMENT, rule -> x.lie(2, rule));
        Check.beyond("35: the BID ahead of the RULE", x, 0, 2, Check.INDEX, bid -> x.lie(bid, 2));
        Check.changingNothing("35: 98 wins by its number: GAIN 1", x, 98, () -> x.lie(0, 0));
        Check.due("35: the least VALUE: GAIN 1", x.lie(2, 0), 1);
        Check.due("35: none of who would have to pay more", x.lie(1, 0), -1);
        Check.due("35: none by RULE 1", x.lie(0, 1), -1);
        x.change(1, 99);
        Check.due("35: no less wins", x.lie(0, 0), -1);
        x.change(1, 97);
        Check.due("35: 97 is enough", x.lie(0, 0), 97);
        x.change(2, 1);
        Check.due("35: there is no VALUE less than 1", x.lie(2, 0), -1);
        x.limit(2);
        Check.changingNothing("35: OPEN", x, -1, () -> x.lie(0, 0));
        Check.beyond("35: ahead of NONE, BID", x, 0, 2, Check.INDEX, bid -> x.lie(bid, 0));
        Check.beyond("35: ahead of NONE, RULE", x, 0, 1, Check.ARGUMENT, rule -> x.lie(0, rule));
        x.limit(3);
        Check.due("35: 3 are not more than 3", x.lie(0, 0), 97);
        Bundlesale y = Houses.with(0, 0);
        y.bid(1, 1, 98);
        y.bid(0, 1, 99);
        Check.due("35: 98 would lose by its number", y.lie(1, 0), -1);
        y.change(0, 97);
        Check.due("35: 98 is 1 more", y.lie(1, 0), 98);
    }

    /**
     * BIDDER 0 has a BUDGET of 45 and tells v for GOOD 0, beside 20 for GOOD 1; BIDDER 1 tells 14 and 10. From v = 15 on
     * BIDDER 0 wins both GOODS and pays v + 20, at most 45; from v = 35 on GOOD 0 alone, and pays v. Its GAIN is 10 with
     * 15, less and less up to 25, and 10 again with 35.
     */
    private static void alikeGains() {
        Bundlesale x = Houses.with(1, 1);
        x.budget(0, 45);
        x.bid(1, 2, 10);
        x.bid(1, 1, 14);
        x.bid(0, 1, 50);
        x.bid(0, 2, 20);
        Check.due("35: GAIN with 14", x.gain(2, 14, 0), 0);
        Check.due("35: GAIN with 15", x.gain(2, 15, 0), 10);
        Check.due("35: GAIN with 16", x.gain(2, 16, 0), 9);
        Check.due("35: GAIN with 34", x.gain(2, 34, 0), 0);
        Check.due("35: GAIN with 35", x.gain(2, 35, 0), 10);
        Check.due("35: GAIN with 36", x.gain(2, 36, 0), 9);
        Check.due("35: of 15 and 35 with the same GAIN the smaller VALUE", x.lie(2, 0), 15);
        x.change(0, 11);
        Check.due("35: 34 has a GAIN of 11", x.gain(2, 34, 0), 11);
        Check.due("35: the greatest GAIN ahead of the smaller VALUE", x.lie(2, 0), 34);
        x.change(0, 9);
        Check.due("35: 36 has a GAIN of 9", x.gain(2, 36, 0), 9);
        Check.due("35: the greatest GAIN comes first", x.lie(2, 0), 15);
        Check.due("35: RULE 1, none", x.lie(2, 1), -1);
    }

    public static void main(String[] args) {
        noBidInTheSale();
        better();
        goodsInCommon();
        quick();
        quickTakesWhatFits();
        quickLooksAtAll();
        promise28();
        promise29();
        promise30();
        promise31();
        promise32();
        lack();
        nearest();
        winnersInTheWay();
        threeAgainstOne();
        alikeLacks();
        promise34();
        promise35();
        alikeGains();
        Check.end("SalesEdgesTest");
    }
}
