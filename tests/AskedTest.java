/** Promises 20 to 26: what is asked of goods and bids. */
public final class AskedTest {
    private static void promise20() {
        Bundlesale x = new Bundlesale();
        x.bidder(0);
        x.bidder(1);
        Check.throwing("20: no bid", Check.INDEX, () -> x.ofBid(0, 0));
        x.bid(0, 5, 40);
        x.bid(1, 2, 30);
        x.bid(1, 8, 20);
        x.join(1, 4, true);
        x.out(3, true);
        int[][] want = {{0, 5, 40, 5, 1, 1}, {1, 2, 30, 18, 1, 1}, {1, 8, 20, 8, 0, 0}};
        for (int bid = 0; bid < 3; bid++) {
            for (int what = 0; what <= 5; what++) {
                Check.due("20: ofBid(" + bid + "," + what + ")", x.ofBid(bid, what), want[bid][what]);
            }
        }
        x.out(4, true);
        Check.due("20: a joined good is out", x.ofBid(1, 4), 0);
        Check.throwing("20: bid 3", Check.INDEX, () -> x.ofBid(3, 9));
        Check.throwing("20: bid -1", Check.INDEX, () -> x.ofBid(-1, 0));
        Check.throwing("20: what -1", Check.ARGUMENT, () -> x.ofBid(0, -1));
        Check.throwing("20: what 6", Check.ARGUMENT, () -> x.ofBid(0, 6));
        x.out(4, false);
        x.bid(0, 16, 99);
        Check.due("20: beaten", x.ofBid(1, 5), 0);
        x.limit(1);
        Check.due("20: in the quick sale", x.ofBid(3, 5), 1);
        Check.due("20: not in the quick sale", x.ofBid(0, 5), 0);
        x.giveUp(0);
        x.limit(16);
        x.sell(0);
        Check.due("20: a sold good can't be won", x.ofBid(1, 4), 0);
    }

    private static void promise21() {
        Bundlesale x = new Bundlesale();
        Check.due("21: none", x.list(), "");
        for (int k = 0; k < 4; k++) {
            x.bidder(1);
        }
        x.bid(3, 63, 99);
        Check.due("21: one", x.list(), "3:012345=99");
        x.bid(0, 36, 1);
        x.bid(2, 1, 10);
        Check.due("21: three", x.list(), "3:012345=99;0:25=1;2:0=10");
        for (int k = 1; k <= 13; k++) {
            x.bid(1, 63 - k, 50);
        }
        Check.due("21: sixteen", x.list().split(";").length, 16);
    }

    private static void promise22() {
        Bundlesale x = new Bundlesale();
        Check.due("22: empty", x.typed(), "");
        Houses.type(x, ";:=0987654321");
        Check.due("22: all signs", x.typed(), ";:=0987654321");
    }

    private static void wrong(Bundlesale x, String text, int want) {
        Houses.type(x, text);
        Check.due("23: " + text, x.fault(), want);
    }

    private static void promise23() {
        Bundlesale x = new Bundlesale();
        wrong(x, "", -1);
        wrong(x, ";;;", -1);
        wrong(x, "0:0=1", 0);
        x.bidder(0);
        x.bidder(0);
        wrong(x, "0:0=1", -1);
        wrong(x, "1:05=99;;0:5=09;", -1);
        String[] pieces = {"2:0=1", "0:0=0", "0:0=00", "0:0=100", "0:=5", "0:0=", "0:0", "0:", "0", ":0=5", "00:0=5",
            "0:00=5", "0:10=5", "0:6=5", "0:06=5", "0:0==5", "0::0=5", "0:0=5:", "0:0=5=", "=", ":", "0=0:5", "0:0=:",
            "0:0=1:", "9:0=5", "0:0123450=1", "0:0=0:", "0:0:5=5", "0=0=1"};
        for (String piece : pieces) {
            wrong(x, piece, 0);
            wrong(x, ";0:1=1;;" + piece + ";", 1);
        }
        wrong(x, "0:0=5;0:1=5;0:0=6", 2);
        wrong(x, "0:0=5;1:0=5", -1);
        x.bid(1, 5, 9);
        wrong(x, "0:02=5;1:02=5", 1);
        wrong(x, "1:02=5;0", 0);
        for (int k = 1; k <= 13; k++) {
            x.bid(0, k, 9);
        }
        wrong(x, "1:1=5;1:2=5", -1);
        wrong(x, "1:1=5;1:2=5;1:3=5", 2);
        x.freeze(true);
        wrong(x, "1:1=5;1:2=5;1:3=5", 2);
        wrong(x, "1:1=5", -1);
        Check.due("23: frozen or not", x.house(1), 14);
    }

    private static void promise24() {
        Bundlesale x = new Bundlesale();
        Check.due("24: alone", x.team(5), 32);
        x.join(5, 0, true);
        x.join(0, 3, true);
        x.join(1, 2, true);
        Check.due("24: by others", x.team(5), 41);
        Check.due("24: another team", x.team(2), 6);
        x.out(0, true);
        Check.due("24: out or not", x.team(3), 41);
        Check.throwing("24: 6", Check.INDEX, () -> x.team(6));
        Check.throwing("24: -1", Check.INDEX, () -> x.team(-1));
    }

    private static void promise25() {
        Bundlesale x = new Bundlesale();
        x.bidder(0);
        x.bidder(0);
        x.out(2, true);
        x.bid(1, 1, 5);
        x.sell(0);
        Check.due("25: sold", x.owner(0), 1);
        Check.due("25: live", x.owner(1), -1);
        Check.due("25: out", x.owner(2), -9);
        Check.throwing("25: 6", Check.INDEX, () -> x.owner(6));
        Check.throwing("25: -1", Check.INDEX, () -> x.owner(-1));
    }

    private static int formsOf(int... bundles) {
        Bundlesale x = new Bundlesale();
        x.bidder(0);
        x.bidder(1);
        x.join(0, 5, true);
        for (int k = 0; k < bundles.length; k++) {
            x.bid(k % 2, bundles[k], 5);
        }
        return x.forms();
    }

    private static void promise26() {
        Check.due("26: none", formsOf(), 7);
        Check.due("26: single ones", formsOf(1, 32, 1), 7);
        Check.due("26: rows, nested", formsOf(3, 1, 7), 3);
        Check.due("26: rows, crossing", formsOf(3, 6), 1);
        Check.due("26: a gap, nested", formsOf(5, 1), 2);
        Check.due("26: a gap, crossing", formsOf(5, 6), 0);
        Check.due("26: alike ones", formsOf(24, 24), 3);
        Check.due("26: the last two cross", formsOf(1, 12, 24), 1);
        Check.due("26: all goods", formsOf(63), 3);
        Check.due("26: far ends", formsOf(33), 2);
        Check.due("26: the top", formsOf(56), 3);
    }

    public static void main(String[] args) {
        promise20();
        promise21();
        promise22();
        promise23();
        promise24();
        promise25();
        promise26();
        Check.end("AskedTest");
    }
}
