import java.math.BigInteger;

/** Promises 49 to 51 at their edges: house(), isSound(), digest() where it wraps around. */
public final class AllEdgesTest {
    private static void promise49() {
        Bundlesale x = new Bundlesale();
        Check.beyond("49: what", x, 0, 11, Check.ARGUMENT, what -> x.house(what));
        int[] none = {0, 0, 0, 6, 16, 0, 0, 0, 0, 0, 0, 0};
        Bundlesale y = Houses.full();
        int[] full = {4, 16, 16, 6, 16, 60, 8, 8, 0, 40, 0, 0};
        for (int what = 0; what <= 11; what++) {
            int each = what;
            Check.changingNothing("49: nothing yet, " + what, x, none[what], () -> x.house(each));
            Check.changingNothing("49: everything full, " + what, y, full[what], () -> y.house(each));
        }
        Check.beyond("49: full, what", y, 0, 11, Check.ARGUMENT, what -> y.house(what));
        for (int good = 0; good <= 5; good++) {
            y.out(good, true);
        }
        Check.due("49: none CAN win", y.house(2), 0);
        Check.due("49: none is LIVE", y.house(3), 0);
        Check.due("49: the BIDS are there", y.house(1), 16);
    }

    private static void paidInAll() {
        Bundlesale x = Houses.with(0, 0, 0, 0);
        int[] values = {1, 20, 37, 99};
        int sum = 0;
        for (int bidder = 0; bidder <= 3; bidder++) {
            x.bid(bidder, 1 << bidder, values[bidder]);
            Check.due("49: what one pays", x.sell(0), values[bidder]);
            sum += values[bidder];
            Check.due("49: what was paid in all", x.house(8), sum);
        }
        x.giveUp(3);
        x.bid(0, 8, 99);
        Check.due("49: what one pays more", x.sell(0), 99);
        Check.due("49: twice for one GOOD", x.house(8), 256);
        x.undo();
        Check.due("49: not any more", x.house(8), 157);
    }

    /** Two win, and the third one is in the way by 2: RULE 1 is 8 and 8, RULE 2 is 9 and 9. */
    private static Bundlesale withCut(int who, int budget) {
        Bundlesale x = Houses.with(0, 0, 0);
        x.bid(0, 1, 10);
        x.bid(1, 2, 10);
        x.bid(2, 3, 18);
        x.budget(who, budget);
        Check.due("50: the CUT", x.cuts(), "4");
        Check.due("50: RULE 1", x.pays(0, 1) + x.pays(1, 1), 16);
        Check.due("50: RULE 2", x.pays(0, 2) + x.pays(1, 2), 18);
        return x;
    }

    private static Bundlesale withPayment(Bundlesale x, String rule, int bidder, int coins) {
        ((int[]) Hidden.of(Hidden.of(x, "outcome"), rule))[bidder] = coins;
        return x;
    }

    private static void promise50() {
        Bundlesale none = new Bundlesale();
        Check.changingNothing("50: nothing yet", none, true, () -> none.isSound());
        Bundlesale full = Houses.full();
        Check.changingNothing("50: everything full", full, true, () -> full.isSound());
        full.limit(0);
        Check.changingNothing("50: everything full, OPEN", full, true, () -> full.isSound());
        // With a coin more by RULE 1, a LIE that loses would leave a coin more.
        Check.due("50: a LIE brings GAIN", withPayment(withCut(0, -1), "ruleOne", 0, 9).isSound(), false);
        for (int who = 0; who <= 2; who++) {
            int budget = who == 2 ? 18 : 10;
            Check.due("50: or somebody has a BUDGET, " + who,
                withPayment(withCut(who, budget), "ruleOne", 0, 9).isSound(), true);
        }
        Check.due("50: RULE 2 is as it is", withPayment(withCut(0, -1), "ruleTwo", 0, 9).isSound(), true);
        Check.due("50: a GROUP is in the way by 1", withPayment(withCut(0, -1), "ruleTwo", 0, 8).isSound(), false);
        Check.due("50: RULE 2 is RULE 0", withPayment(withCut(0, -1), "ruleTwo", 0, 10).isSound(), true);
        Check.due("50: RULE 2 is 1 above RULE 0", withPayment(withCut(0, -1), "ruleTwo", 0, 11).isSound(), false);
        Bundlesale below = withPayment(withCut(0, -1), "ruleTwo", 1, 10);
        Check.due("50: RULE 2 is RULE 1", withPayment(below, "ruleTwo", 0, 8).isSound(), true);
        Check.due("50: RULE 2 is 1 below RULE 1", withPayment(below, "ruleTwo", 0, 7).isSound(), false);
    }

    /** One is BETTER than the told SALE by its WORTH, by fewer BIDS, or by the smallest number. */
    private static void betterThanTold() {
        int[][] toldAndSound = {{8, 1}, {3, 0}, {5, 0}, {16, 0}, {0, 0}, {24, 0}};
        for (int[] each : toldAndSound) {
            Bundlesale x = Houses.with(1);
            x.bid(0, 1, 10);
            x.bid(0, 2, 10);
            x.bid(0, 6, 10);
            x.bid(0, 3, 20);
            x.bid(0, 7, 20);
            Check.due("50: fewer BIDS, the smaller number", x.sale(), "3");
            x.pays(0, 2);
            Hidden.set(Hidden.of(x, "outcome"), "told", each[0]);
            Check.due("50: the told SALE is " + each[0], x.isSound(), each[1] == 1);
        }
        Bundlesale y = Houses.crowded(0);
        y.pays(0, 2);
        Object outcome = Hidden.of(y, "outcome");
        Hidden.set(outcome, "ties", y.count() + 1);
        Check.due("50: count() is 1 too many", y.isSound(), false);
        Check.due("51: of what is not sound", y.digest(), unwrapped(y).longValue());
    }

    private static void readList(Bundlesale x, String text, boolean isIt) {
        Object typing = Hidden.of(x, "typing");
        Check.due("50: the BIDS are " + text, Hidden.tell(typing, "isList", text), isIt);
    }

    /** list(), read, is the BIDS: as many, of the same BIDDERS, on the same BUNDLES, with the same VALUES. */
    private static void listIsTheBids() {
        Bundlesale x = Houses.with(0, 0);
        readList(x, "", true);
        readList(x, "0:0=1", false);
        x.bid(0, 3, 45);
        x.bid(1, 32, 9);
        readList(x, x.list(), true);
        String[] others = {"", "0:01=45", "0:01=45;1:5=9;1:4=9", "1:01=45;1:5=9", "0:0=45;1:5=9", "0:01=44;1:5=9",
            "0:01=45;0:5=9", "0:01=45;1:4=9", "0:01=45;1:5=8", "1:5=9;0:01=45", "0:01=45;1:5=", "0:01=45,1:5=9",
            "0:01=45;2:5=9", ";".repeat(300)};
        for (String other : others) {
            readList(x, other, false);
        }
    }

    /** If it is OPEN, nothing is said of the BEST and of count(). */
    private static void soundIfOpen() {
        Bundlesale x = Houses.with(0, 0);
        x.bid(0, 1, 10);
        x.bid(1, 1, 9);
        x.limit(1);
        x.pays(0, 2);
        Object outcome = Hidden.of(x, "outcome");
        Check.due("50: the QUICK one", Hidden.number(outcome, "told"), 1);
        Hidden.set(outcome, "told", 2);
        Check.due("50: OPEN, another one than the BEST", x.isSound(), true);
        Hidden.set(outcome, "told", 3);
        Check.due("50: OPEN, but no SALE", x.isSound(), false);
        Hidden.set(outcome, "told", 1);
        Hidden.set(outcome, "high", 9);
        Check.due("50: OPEN, HIGH below LOW", x.isSound(), false);
        Hidden.set(outcome, "high", 10);
        Check.due("50: OPEN, HIGH is LOW", x.isSound(), true);
    }

    /** All numbers that go into the digest, in their order, each once: d of all of them without wrapping around. */
    private static BigInteger unwrapped(Bundlesale x) {
        Sum sum = new Sum();
        for (int what = 0; what <= 11; what++) sum.add(x.house(what));
        for (int bid = 0; bid < x.house(1); bid++) {
            for (int what = 0; what <= 5; what++) sum.add(x.ofBid(bid, what));
        }
        sum.add(x.list().length());
        sum.add(x.fault());
        for (int good = 0; good <= 5; good++) {
            sum.add(x.team(good));
            sum.add(x.owner(good));
            sum.add(x.edge(good, true));
            sum.add(x.edge(good, false));
        }
        sum.add(x.forms());
        sum.add(x.sale().length());
        sum.add(x.bound(false));
        sum.add(x.bound(true));
        sum.add(x.count());
        for (int bidder = 0; bidder < x.house(0); bidder++) {
            for (int what = 0; what <= 2; what++) sum.add(x.gets(bidder, what));
            for (int rule = 0; rule <= 2; rule++) sum.add(x.pays(bidder, rule));
            sum.add(x.demand(bidder).length());
            sum.add(x.shapley(bidder).length());
            sum.add(x.fee(bidder, 100));
        }
        sum.add(x.cuts().length());
        sum.add(x.hold() ? 1 : 0);
        sum.add(x.clock(20, false).length());
        sum.add(x.clock(20, true).length());
        sum.add(x.proxy(20).length());
        sum.add(x.handOut(5, 2).length());
        sum.add(x.trades().length());
        sum.add(x.lost());
        sum.add(x.matched().length());
        sum.add(x.stand() ? 1 : 0);
        sum.add(x.isSound() ? 1 : 0);
        return sum.d;
    }

    private static final class Sum {
        BigInteger d = BigInteger.valueOf(6901);

        void add(int v) {
            d = d.multiply(BigInteger.valueOf(31)).add(BigInteger.valueOf(v));
        }
    }

    private static void promise51() {
        BigInteger most = BigInteger.valueOf(Long.MAX_VALUE);
        int below = 0;
        int above = 0;
        for (int k = 0; k < 40; k++) {
            Bundlesale x = k % 4 == 0 ? Houses.crowded(k & 1) : Houses.with(0, 1);
            for (int again = 0; again < k; again++) {
                x.knock();
            }
            BigInteger exact = unwrapped(x);
            Check.due("51: far above 64 bits", exact.abs().compareTo(most.shiftLeft(1)) > 0, true);
            Check.changingNothing("51: wrapped around", x, exact.longValue(), () -> x.digest());
            below += x.digest() < 0 ? 1 : 0;
            above += x.digest() > 0 ? 1 : 0;
        }
        Check.due("51: some are wrapped to below 0", below > 0, true);
        Check.due("51: and some to above", above > 0, true);
    }

    /** The digest of a new house, from the numbers that the document gives for it. */
    private static void newHouse() {
        int[] numbers = {0, 0, 0, 6, 16, 0, 0, 0, 0, 0, 0, 0, 0, -1, 1, -1, 0, 0, 2, -1, 0, 0, 4, -1, 0, 0, 8, -1, 0, 0,
            16, -1, 0, 0, 32, -1, 0, 0, 7, 0, 0, 0, 1, 0, 1, 13, 13, 1, 0, 1, 0, 0, 1, 1};
        Sum sum = new Sum();
        for (int v : numbers) {
            sum.add(v);
        }
        Bundlesale x = new Bundlesale();
        Check.due("51: a new house", x.digest(), sum.d.longValue());
        Check.due("51: and once more", x.digest(), sum.d.longValue());
    }

    /** clock() and proxy() of 20, handOut() of 5 and 2: what others tell is of another length. */
    private static void whatIsAskedByDigest() {
        Bundlesale x = Houses.with(0, 0);
        x.bid(0, 32, 20);
        x.bid(1, 32, 21);
        digestDiffers("51: clock of 20", x, x.clock(20, false), x.clock(19, false), x.clock(21, false));
        digestDiffers("51: clock of 20, with ACTIVITY", x, x.clock(20, true), x.clock(19, true), x.clock(21, true));
        Bundlesale y = Houses.with(0, 0);
        y.bid(0, 1, 99);
        y.bid(0, 6, 50);
        y.bid(1, 1, 99);
        digestDiffers("51: without and with ACTIVITY", y, y.clock(20, false), y.clock(20, true));
        Bundlesale z = Houses.with(0, 0);
        z.worths(0, 99, 99, 99);
        z.worths(1, 99, 99, 40);
        digestDiffers("51: handOut of 5 and 2", z, z.handOut(5, 2), z.handOut(5, 1), z.handOut(5, 0),
            z.handOut(4, 2), z.handOut(6, 2));
        Bundlesale w = Houses.with(0);
        w.bid(0, 1, 20);
        digestDiffers("51: proxy of 20, as the VALUE", w, w.proxy(20), w.proxy(21));
        w.change(0, 19);
        digestDiffers("51: proxy of 20, above the VALUE", w, w.proxy(20), w.proxy(19));
    }

    private static void digestDiffers(String what, Bundlesale x, String asked, String... others) {
        for (String other : others) {
            Check.due(what + ", told otherwise by others", asked.length() != other.length(), true);
        }
        Check.due(what, x.digest(), unwrapped(x).longValue());
    }

    public static void main(String[] args) {
        promise49();
        paidInAll();
        promise50();
        betterThanTold();
        listIsTheBids();
        soundIfOpen();
        promise51();
        newHouse();
        whatIsAskedByDigest();
        Check.end("AllEdgesTest");
    }
}
