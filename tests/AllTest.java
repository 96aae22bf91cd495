/** Promises 49 to 51: house, isSound, digest; and that 512 calls of the dearest kind fit in their room. */
public final class AllTest {
    private static void promise49() {
        Bundlesale x = new Bundlesale();
        x.bidder(1);
        x.bid(0, 1, 5);
        x.bid(0, 2, 6);
        x.bid(0, 4, 7);
        x.out(2, true);
        x.limit(7);
        x.say(1, 2, 3, -1, -1, -1);
        x.offer(true, 5);
        x.offer(false, 5);
        x.offer(false, 6);
        x.knock();
        x.knock();
        x.knock();
        x.freeze(true);
        int[] want = {1, 3, 2, 5, 7, 3, 1, 2, 0, 11, 1, 3};
        for (int what = 0; what <= 11; what++) {
            Check.due("49: house(" + what + ")", x.house(what), want[what]);
        }
        x.sell(0);
        Check.due("49: bids that are left", x.house(1), 1);
        Check.due("49: can win", x.house(2), 0);
        Check.due("49: live", x.house(3), 3);
        Check.due("49: paid", x.house(8), 11);
        Check.due("49: can be undone", x.house(9), 12);
        Check.throwing("49: -1", Check.ARGUMENT, () -> x.house(-1));
        Check.throwing("49: 12", Check.ARGUMENT, () -> x.house(12));
    }

    private static void promise50() {
        Check.due("50: a new one", new Bundlesale().isSound(), true);
        for (int first = 0; first <= 1; first++) {
            Bundlesale x = Houses.crowded(first);
            Check.due("50: full", x.isSound(), true);
            x.limit(3);
            Check.due("50: open", x.isSound(), true);
            x.limit(16);
            x.budget(1, 37);
            x.budget(2, 0);
            Check.due("50: budgets", x.isSound(), true);
            x.join(1, 2, true);
            x.out(5, true);
            Check.due("50: teams", x.isSound(), true);
            x.sell(2);
            Check.due("50: sold", x.isSound(), true);
        }
    }

    /** What isSound() tells, when a thing that was found out is not so. */
    private static boolean soundWith(String name, int place, int number) {
        Bundlesale x = Houses.crowded(0);
        x.pays(0, 2);
        Object outcome = Hidden.of(x, "outcome");
        if (place < 0) {
            Hidden.set(outcome, name, number);
        } else {
            ((int[]) Hidden.of(outcome, name))[place] = number;
        }
        return x.isSound();
    }

    private static void soundness() {
        int worth = Houses.crowded(0).bound(false);
        int ties = Houses.crowded(0).count();
        Check.due("50: as it is", soundWith("ties", -1, ties), true);
        Check.due("50: the told one is no SALE", soundWith("told", -1, 65), false);
        Check.due("50: a BETTER one", soundWith("told", -1, 0), false);
        Check.due("50: another count", soundWith("ties", -1, ties + 1), false);
        Check.due("50: a payment below RULE 1", soundWith("ruleTwo", 0, -1), false);
        Check.due("50: a payment above RULE 0", soundWith("ruleTwo", 0, worth), false);
        Check.due("50: a GROUP in the way", soundWith("has", 1, 0), false);
        Check.due("50: LOW above HIGH", soundWith("high", -1, worth - 1), false);
        Check.due("50: a GROUP of less worth", soundWith("worthOfGroup", 15, worth - 1), false);
        Check.due("50: a GROUP of more worth", soundWith("worthOfGroup", 0, 999), false);
        Check.due("50: a LIE brings GAIN", soundWith("ruleOne", 0, 99), false);
    }

    private static long add(long d, long v) {
        return d * 31 + v;
    }

    private static long add(long d, String text) {
        return d * 31 + text.length();
    }

    private static long add(long d, boolean is) {
        return d * 31 + (is ? 1 : 0);
    }

    /** The digest as the document tells it, from the other calls. */
    private static long digestOf(Bundlesale x) {
        long d = 6901;
        for (int what = 0; what <= 11; what++) d = add(d, x.house(what));
        for (int bid = 0; bid < x.house(1); bid++) {
            for (int what = 0; what <= 5; what++) d = add(d, x.ofBid(bid, what));
        }
        d = add(add(d, x.list()), x.fault());
        for (int good = 0; good < 6; good++) {
            d = add(add(d, x.team(good)), x.owner(good));
            d = add(add(d, x.edge(good, true)), x.edge(good, false));
        }
        d = add(add(d, x.forms()), x.sale());
        d = add(add(add(d, x.bound(false)), x.bound(true)), x.count());
        for (int bidder = 0; bidder < x.house(0); bidder++) {
            for (int what = 0; what <= 2; what++) d = add(d, x.gets(bidder, what));
            for (int rule = 0; rule <= 2; rule++) d = add(d, x.pays(bidder, rule));
            d = add(add(add(d, x.demand(bidder)), x.shapley(bidder)), x.fee(bidder, 100));
        }
        d = add(add(d, x.cuts()), x.hold());
        d = add(add(add(d, x.clock(20, false)), x.clock(20, true)), x.proxy(20));
        d = add(add(add(d, x.handOut(5, 2)), x.trades()), x.lost());
        return add(add(add(d, x.matched()), x.stand()), x.isSound());
    }

    private static void promise51() {
        Bundlesale empty = new Bundlesale();
        Check.due("51: a new one", empty.digest(), digestOf(empty));
        for (int first = 0; first <= 1; first++) {
            Bundlesale x = Houses.crowded(first);
            Check.due("51: full", x.digest(), digestOf(x));
            x.price(0, 30);
            x.say(0, 10, 1, 11, 5, 12);
            Check.due("51: more", x.digest(), digestOf(x));
            x.limit(3);
            Check.due("51: open", x.digest(), digestOf(x));
            x.limit(16);
            x.budget(0, 33);
            x.sell(2);
            x.knock();
            Check.due("51: sold", x.digest(), digestOf(x));
            Check.due("51: asking changes nothing", x.digest(), digestOf(x));
        }
    }

    /** All calls of a run have room for some 7.3 million fields and elements: 512 of the dearest call are to fit. */
    private static void room() {
        com.sun.management.ThreadMXBean meter =
            (com.sun.management.ThreadMXBean) java.lang.management.ManagementFactory.getThreadMXBean();
        Houses.crowded(0).digest();
        long before = meter.getCurrentThreadAllocatedBytes();
        Bundlesale x = Houses.crowded(0);
        for (int k = 0; k < 450; k++) {
            x.digest();
        }
        long bytes = meter.getCurrentThreadAllocatedBytes() - before;
        Check.due("room: " + bytes + " bytes are at most 3,000,000", bytes <= 3000000, true);
    }

    public static void main(String[] args) {
        promise49();
        promise50();
        soundness();
        promise51();
        room();
        Check.end("AllTest");
    }
}
