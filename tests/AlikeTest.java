/** Promises 40 to 43: what is asked of one good, of alike ones, of trades. */
public final class AlikeTest {
    private static void promise40() {
        Bundlesale x = new Bundlesale();
        Check.due("40: nobody", x.single(0, 0, 0), "-");
        for (int k = 0; k < 4; k++) {
            x.bidder(k & 1);
        }
        x.bid(0, 1, 20);
        x.bid(1, 1, 50);
        x.bid(2, 1, 50);
        x.bid(3, 1, 30);
        x.bid(3, 3, 99);
        Check.due("40: first price", x.single(0, 0, 0), "1 50");
        Check.due("40: second price", x.single(0, 1, 0), "1 50");
        Check.due("40: all pay", x.single(0, 2, 0), "1 150");
        Check.due("40: all who count pay", x.single(0, 2, 21), "1 130");
        x.budget(1, 35);
        Check.due("40: a budget", x.single(0, 1, 0), "2 35");
        Check.due("40: at least the least", x.single(0, 1, 40), "2 40");
        Check.due("40: just the least", x.single(0, 0, 50), "2 50");
        Check.due("40: none counts", x.single(0, 0, 51), "-");
        x.budget(1, 0);
        Check.due("40: 0 does not count", x.single(0, 2, 0), "2 100");
        Check.due("40: not of two goods", x.single(1, 0, 0), "-");
        x.bid(0, 4, 7);
        Check.due("40: alone", x.single(2, 1, 0), "0 0");
        Check.due("40: alone, the least", x.single(2, 1, 5), "0 5");
        x.limit(0);
        Check.due("40: open or not", x.single(2, 0, 0), "0 7");
        x.join(2, 4, true);
        Check.due("40: not as a whole", x.single(2, 0, 0), "-");
        x.out(0, true);
        Check.due("40: out", x.single(0, 0, 0), "-");
        Check.throwing("40: good 6", Check.INDEX, () -> x.single(6, 9, 0));
        Check.throwing("40: good -1", Check.INDEX, () -> x.single(-1, 0, 0));
        Check.throwing("40: kind 3", Check.ARGUMENT, () -> x.single(0, 3, 0));
        Check.throwing("40: kind -1", Check.ARGUMENT, () -> x.single(0, -1, 0));
        Check.throwing("40: least 100", Check.ARGUMENT, () -> x.single(0, 0, 100));
        Check.throwing("40: least -1", Check.ARGUMENT, () -> x.single(0, 0, -1));
    }

    private static void promise41() {
        Bundlesale x = new Bundlesale();
        Check.due("41: no bidders", x.handOut(12, 0), "");
        Check.throwing("41: no bidders, 13", Check.ARGUMENT, () -> x.handOut(13, 0));
        for (int k = 0; k < 3; k++) {
            x.bidder(0);
        }
        Check.due("41: no worths", x.handOut(3, 0), "0 0 0 0 0 0");
        x.worths(0, 10, 6, 6);
        x.worths(1, 8, 6, 2);
        x.worths(2, 9, 1, 0);
        Check.due("41: none", x.handOut(0, 2), "0 0 0 0 0 0");
        Check.due("41: own worths", x.handOut(4, 0), "2 16 1 8 1 9");
        Check.due("41: the greatest left", x.handOut(4, 1), "2 12 1 6 1 6");
        Check.due("41: the greatest left of others", x.handOut(4, 2), "2 8 1 6 1 6");
        Check.due("41: alike ones", x.handOut(5, 0), "3 22 1 8 1 9");
        Check.due("41: the others have left", x.handOut(5, 2), "3 9 1 1 1 6");
        Check.due("41: all", x.handOut(12, 0), "3 22 3 16 2 10");
        Check.due("41: all, nothing is left", x.handOut(12, 1), "3 0 3 0 2 0");
        Check.due("41: 0 gets none", x.handOut(9, 2), "3 0 3 0 2 0");
        Check.throwing("41: -1", Check.ARGUMENT, () -> x.handOut(-1, 0));
        Check.throwing("41: kind 3", Check.ARGUMENT, () -> x.handOut(1, 3));
        Check.throwing("41: kind -1", Check.ARGUMENT, () -> x.handOut(1, -1));
    }

    private static Bundlesale market(int[] buyers, int[] sellers) {
        Bundlesale x = new Bundlesale();
        for (int coins : buyers) {
            x.offer(true, coins);
        }
        for (int coins : sellers) {
            x.offer(false, coins);
        }
        return x;
    }

    private static void met(int[] buyers, int[] sellers, String trades, int lost) {
        Bundlesale x = market(buyers, sellers);
        Check.due("42: trades", x.trades(), trades);
        Check.due("43: lost", x.lost(), lost);
    }

    private static void promises42And43() {
        met(new int[] {}, new int[] {}, "0", 0);
        met(new int[] {5}, new int[] {}, "0", 0);
        met(new int[] {}, new int[] {5}, "0", 0);
        met(new int[] {5}, new int[] {6}, "0", 0);
        met(new int[] {5}, new int[] {5}, "0", 0);
        met(new int[] {9}, new int[] {5}, "0", 4);
        met(new int[] {7, 9}, new int[] {8, 7}, "1 15/2 15/2", 0);
        met(new int[] {6, 9}, new int[] {8, 7}, "1 7 7", 0);
        met(new int[] {5, 9}, new int[] {8, 7}, "0", 2);
        met(new int[] {9, 5}, new int[] {7, 8}, "0", 2);
        met(new int[] {10, 30, 20}, new int[] {25, 5, 15}, "2 35/2 35/2", 0);
        met(new int[] {30, 20, 10}, new int[] {5, 15}, "1 20 15", 5);
        met(new int[] {30, 20}, new int[] {5, 15, 999}, "1 20 15", 5);
        met(new int[] {30, 20, 2}, new int[] {5, 15, 28}, "2 15 15", 0);
        met(new int[] {30, 20, 1}, new int[] {5, 15, 28}, "1 20 15", 5);
        met(new int[] {30, 20, 12}, new int[] {5, 15, 28}, "2 20 20", 0);
        met(new int[] {30, 20, 12}, new int[] {5, 15, 29}, "1 20 15", 5);
        met(new int[] {7, 7, 7, 7, 7, 7, 7, 7}, new int[] {7, 7, 7, 7, 7, 7, 7, 7}, "7 7 7", 0);
        met(new int[] {999, 998}, new int[] {1, 2}, "1 998 2", 996);
    }

    public static void main(String[] args) {
        promise40();
        promise41();
        promises42And43();
        Check.end("AlikeTest");
    }
}
