import java.util.regex.Pattern;

/** Promises 20 to 26 at their edges. */
public final class AskedEdgesTest {
    private static void promise20() {
        Bundlesale none = Houses.with(0);
        Check.beyond("20: no BID there yet, BID", none, 0, -1, Check.INDEX, bid -> none.ofBid(bid, 0));
        Check.beyond("20: the BID ahead of what", none, 0, -1, Check.INDEX, bid -> none.ofBid(bid, 6));
        Bundlesale x = Houses.withBids(1, 0);
        Check.beyond("20: one BID, BID", x, 0, 0, Check.INDEX, bid -> x.ofBid(bid, 0));
        Check.beyond("20: what", x, 0, 5, Check.ARGUMENT, what -> x.ofBid(0, what));
        int[] want = {0, 1, 10, 1, 1, 1};
        for (int what = 0; what <= 5; what++) {
            int each = what;
            Check.changingNothing("20: what " + what, x, want[what], () -> x.ofBid(0, each));
        }
        x.limit(0);
        Check.due("20: OPEN, in the QUICK one", x.ofBid(0, 5), 1);
        x.out(0, true);
        Check.due("20: OUT, it can't win", x.ofBid(0, 4), 0);
        Check.due("20: OUT, it is in no SALE", x.ofBid(0, 5), 0);
        Bundlesale y = Houses.full();
        Check.beyond("20: 16 BIDS, BID", y, 0, 15, Check.INDEX, bid -> y.ofBid(bid, 5));
        int[] last = {3, 63, 80, 63, 1, 0};
        for (int what = 0; what <= 5; what++) {
            Check.due("20: the last one, what " + what, y.ofBid(15, what), last[what]);
        }
    }

    /** A BID CAN win only if all GOODS of its WHOLE are LIVE: none OUT, none SOLD, none of their TEAMS either. */
    private static void canWin() {
        for (int good = 0; good <= 5; good++) {
            Bundlesale x = Houses.with(0, 0);
            x.bid(0, 63, 5);
            x.bid(1, 63 - (1 << good), 5);
            x.bid(1, 1 << good, 7);
            x.out(good, true);
            Check.due("20: one of its GOODS is OUT", x.ofBid(0, 4), 0);
            Check.due("20: one of no GOOD of it is OUT", x.ofBid(1, 4), 1);
            Check.due("20: two can't win", x.house(2), 1);
            x.join(good, (good + 1) % 6, true);
            Check.due("20: one of its TEAMS is OUT", x.ofBid(1, 4), 0);
            Check.due("20: its WHOLE", x.ofBid(1, 3), 63);
            Check.due("20: its BUNDLE", x.ofBid(1, 1), 63 - (1 << good));
            x.join(good, (good + 1) % 6, false);
            x.out(good, false);
            Check.due("20: all can win", x.house(2), 3);
            x.withdraw(0);
            x.withdraw(0);
            x.sell(0);
            x.bid(0, 63, 5);
            x.bid(0, 63 - (1 << good), 5);
            Check.due("20: one of its GOODS is SOLD", x.ofBid(0, 4), 0);
            Check.due("20: its own GOODS are LIVE", x.ofBid(1, 4), 1);
            x.join((good + 5) % 6, good, true);
            Check.due("20: one of its TEAMS is SOLD", x.ofBid(1, 4), 0);
        }
    }

    private static void promise21() {
        Check.due("21: no BIDS", Houses.with(0, 1).list(), "");
        Bundlesale x = Houses.with(1, 1, 1, 1);
        for (int good = 0; good <= 5; good++) {
            x.bid(3, 1 << good, good + 1);
        }
        Check.due("21: one GOOD each", x.list(), "3:0=1;3:1=2;3:2=3;3:3=4;3:4=5;3:5=6");
        Bundlesale y = Houses.with(0, 0, 0, 0);
        for (int k = 0; k < 16; k++) {
            y.bid(k % 4, 63 - k / 4, 99);
        }
        Check.due("21: the longest ones, and no ';' behind", y.list(), "0:012345=99;1:012345=99;2:012345=99;"
            + "3:012345=99;0:12345=99;1:12345=99;2:12345=99;3:12345=99;0:02345=99;1:02345=99;2:02345=99;3:02345=99;"
            + "0:2345=99;1:2345=99;2:2345=99;3:2345=99");
        y.withdraw(15);
        y.withdraw(0);
        Check.due("21: the first and the last one gone", y.list().length(), 12 * 3 + 11 * 8 + 10 * 3 - 1);
        Bundlesale z = Houses.withBids(1, 0);
        z.change(0, 9);
        Check.due("21: one sign for 9", z.list(), "0:0=9");
        z.change(0, 10);
        Check.changingNothing("21: two signs for 10", z, "0:0=10", () -> z.list());
        z.join(0, 5, true);
        Check.due("21: its GOODS, not those of its TEAM", z.list(), "0:0=10");
        z.out(0, true);
        Check.due("21: also what can't win", z.list(), "0:0=10");
    }

    /** What list() tells can be typed and entered: the BIDS are the same. */
    private static void listCanBeTyped() {
        Bundlesale x = Houses.with(0, 1, 0, 1);
        x.bid(0, 63, 99);
        x.bid(1, 42, 9);
        x.bid(2, 1, 10);
        x.bid(3, 32, 1);
        String list = x.list();
        Bundlesale y = Houses.with(0, 1, 0, 1);
        Houses.type(y, list);
        Check.due("21: it is RIGHT", y.fault(), -1);
        Check.due("21: as many", y.enter(), 4);
        Check.due("21: the same", y.list(), list);
    }

    private static void promise22() {
        Check.due("22: empty at first", new Bundlesale().typed(), "");
        Bundlesale x = Houses.full();
        Check.changingNothing("22: 60 signs", x, "0:5=9;".repeat(10), () -> x.typed());
    }

    private static void wrong(Bundlesale x, String text, int want) {
        Houses.type(x, text);
        Check.changingNothing("23: " + text, x, want, () -> x.fault());
    }

    /** Just those digits are BIDDERS that there are. */
    private static void biddersOfPieces() {
        for (int many = 0; many <= 4; many++) {
            Bundlesale x = new Bundlesale();
            for (int k = 0; k < many; k++) {
                x.bidder(k & 1);
            }
            for (int digit = 0; digit <= 9; digit++) {
                wrong(x, digit + ":0=1", digit < many ? -1 : 0);
            }
        }
    }

    private static void signsOfPieces() {
        Bundlesale x = Houses.with(0, 1);
        for (int good = 0; good <= 9; good++) {
            wrong(x, "0:" + good + "=1", good <= 5 ? -1 : 0);
            wrong(x, "0:" + good + "5=1", good < 5 ? -1 : 0);
            wrong(x, "0:0" + good + "=1", good >= 1 && good <= 5 ? -1 : 0);
        }
        for (int value = 0; value <= 9; value++) {
            wrong(x, "0:0=" + value, value >= 1 ? -1 : 0);
            wrong(x, "0:0=0" + value, value >= 1 ? -1 : 0);
            wrong(x, "0:0=00" + value, 0);
            wrong(x, "0:0=9" + value, -1);
            wrong(x, "0:0=10" + value, 0);
        }
        for (char sign : "0123456789:=;".toCharArray()) {
            wrong(x, "" + sign, sign == ';' ? -1 : 0);
            wrong(x, sign + "0:0=1", sign == ';' ? -1 : 0);
            wrong(x, "0" + sign + "0=1", sign == ':' ? -1 : 0);
            wrong(x, "0:0" + sign + "1", sign == '=' ? -1 : 0);
            wrong(x, "0:0=1" + sign, sign == ':' || sign == '=' ? 0 : -1);
        }
        wrong(x, "0:012345=99", -1);
        wrong(x, "0:012345=099", 0);
        wrong(x, "0:0=1;0:1=1;0:2=1;0:3=1;0:4=1;0:5=1;1:0=1;1:1=1;1:2=1;1:3=1;", -1);
        wrong(x, "0:0=1;0:1=1;0:2=1;0:3=1;0:4=1;0:5=1;1:0=1;1:1=1;1:2=1;1:3=0;", 9);
        wrong(x, ";;0:0=1;;;0:1=1;;2", 2);
        wrong(x, ";".repeat(60), -1);
        wrong(x, "1".repeat(60), 0);
        wrong(x, ";".repeat(59) + "1", 0);
    }

    /** Each text of up to 7 of these signs is RIGHT just as this pattern tells. */
    private static void shortPieces() {
        Pattern right = Pattern.compile("[01]:(0|1|01)=(0?[1-9]|[1-9][0-9])");
        for (int many = 1; many <= 7; many++) {
            int texts = (int) Math.pow(5, many);
            for (int number = 0; number < texts; number++) {
                int[] code = {-1, -1, -1, -1, -1, -1, -1};
                int left = number;
                for (int k = 0; k < many; k++) {
                    code[k] = new int[] {0, 1, 6, 10, 11}[left % 5];
                    left /= 5;
                }
                Bundlesale x = Houses.with(0, 1);
                x.say(code[0], code[1], code[2], code[3], code[4], code[5]);
                x.say(code[6], -1, -1, -1, -1, -1);
                String text = x.typed();
                Check.due("23: " + text, x.fault(), right.matcher(text).matches() ? -1 : 0);
            }
        }
    }

    /** The last PIECE ends with the 60th sign, wherever it breaks off. */
    private static void brokenOffAtTheEnd() {
        Bundlesale x = Houses.with(0);
        String piece = "0:012345=99";
        for (int many = 1; many <= piece.length(); many++) {
            wrong(x, ";".repeat(60 - many) + piece.substring(0, many), many >= 10 ? -1 : 0);
        }
    }

    private static void repeatedPieces() {
        Bundlesale x = Houses.with(0, 1);
        wrong(x, "0:0=1;0:0=1", 1);
        wrong(x, "0:0=1;1:0=1", -1);
        wrong(x, "0:0=1;0:1=1;0:01=1", -1);
        wrong(x, "0:0=1;0:1=1;0:01=1;0:01=2", 3);
        x.bid(1, 3, 5);
        wrong(x, "0:01=5", -1);
        wrong(x, "0:0=1;1:01=5", 1);
        wrong(x, "1:01=7;0", 0);
        x.withdraw(0);
        wrong(x, "0:0=1;1:01=5", -1);
    }

    private static void seventeenthBid() {
        for (int there = 13; there <= 16; there++) {
            Bundlesale x = Houses.withBids(there, 0, 1);
            wrong(x, "1:0=1;1:1=1;1:2=1", there == 13 ? -1 : 16 - there);
            wrong(x, "", -1);
            wrong(x, "2", 0);
        }
    }

    private static void frozenOrNot() {
        Bundlesale x = Houses.with(0);
        x.freeze(true);
        wrong(x, "0:0=1", -1);
        wrong(x, "0:0=1;0", 1);
    }

    private static void promise24() {
        Bundlesale x = new Bundlesale();
        Check.beyond("24: GOOD", x, 0, 5, Check.INDEX, good -> x.team(good));
        for (int good = 0; good <= 5; good++) {
            int each = good;
            Check.changingNothing("24: itself alone", x, 1 << good, () -> x.team(each));
        }
        // From 0 to 5 by all the others, and not in their order.
        int[] way = {0, 3, 1, 4, 2, 5};
        for (int k = 0; k < 5; k++) {
            x.join(way[k], way[k + 1], true);
        }
        for (int good = 0; good <= 5; good++) {
            Check.due("24: a long way", x.team(good), 63);
        }
        x.join(4, 1, false);
        Check.due("24: one half", x.team(0), 11);
        Check.due("24: the other half", x.team(5), 52);
        x.bidder(0);
        x.bid(0, 1, 5);
        x.sell(0);
        Check.due("24: SOLD or not", x.team(3), 11);
    }

    private static void promise25() {
        Bundlesale x = Houses.with(0, 0, 0, 1);
        Check.beyond("25: GOOD", x, 0, 5, Check.INDEX, good -> x.owner(good));
        x.bid(3, 32, 5);
        x.bid(0, 1, 5);
        x.sell(0);
        x.out(2, true);
        int[] want = {0, -1, -9, -1, -1, 3};
        for (int good = 0; good <= 5; good++) {
            int each = good;
            Check.changingNothing("25: of " + good, x, want[good], () -> x.owner(each));
        }
        x.giveUp(5);
        x.out(2, false);
        Check.due("25: given back", x.owner(5), -1);
        Check.due("25: LIVE again", x.owner(2), -1);
    }

    private static int formsOf(int... bundles) {
        Bundlesale x = Houses.with(0, 1);
        for (int k = 0; k < bundles.length; k++) {
            x.bid(k % 2, bundles[k], 5);
        }
        return x.forms();
    }

    private static void promise26() {
        Bundlesale none = Houses.with(0);
        Check.changingNothing("26: no BIDS", none, 7, () -> none.forms());
        for (int bundle = 1; bundle <= 63; bundle++) {
            String goods = Integer.toBinaryString(bundle);
            boolean isRow = goods.matches("1+0*");
            boolean isOne = goods.matches("10*");
            Check.due("26: one BUNDLE, " + bundle, formsOf(bundle), 2 + (isRow ? 1 : 0) + (isOne ? 4 : 0));
        }
        Check.due("26: the same twice is one that holds the other", formsOf(3, 3), 3);
        Check.due("26: held by one good less", formsOf(7, 3), 3);
        Check.due("26: holding one good more", formsOf(3, 7), 3);
        Check.due("26: one in common, one more each", formsOf(3, 6), 1);
        Check.due("26: beside each other", formsOf(3, 12), 3);
        Check.due("26: the first and the last one of many", formsOf(3, 4, 8, 16, 34), 0);
        Check.due("26: one of two GOODS among single ones", formsOf(1, 2, 4, 8, 16, 48), 3);
        Check.due("26: one GOOD each", formsOf(1, 2, 4, 8, 16, 32), 7);
        Bundlesale x = Houses.withBids(2, 0);
        x.join(0, 2, true);
        Check.due("26: of BUNDLES, not of WHOLES", x.forms(), 7);
        x.out(0, true);
        x.out(1, true);
        Check.due("26: also of those that can't win", x.forms(), 7);
        x.bid(0, 5, 1);
        Check.due("26: a gap among them", x.forms(), 2);
    }

    public static void main(String[] args) {
        promise20();
        canWin();
        promise21();
        listCanBeTyped();
        promise22();
        biddersOfPieces();
        signsOfPieces();
        shortPieces();
        brokenOffAtTheEnd();
        repeatedPieces();
        seventeenthBid();
        frozenOrNot();
        promise24();
        promise25();
        promise26();
        Check.end("AskedEdgesTest");
    }
}
