import java.util.Arrays;

/** Long runs of calls on the class and on PlainHouse: all answers are to be the same. */
public final class CompareTest {
    private static long seed = 0;

    private static int pick(int bound) {
        seed = seed * 6364136223846793005L + 1442695040888963407L;
        return (int) ((seed >>> 33) % bound);
    }

    private static int pick(int least, int most) {
        return least + pick(most - least + 1);
    }

    /** Mostly in the bounds, sometimes just beyond, seldom far beyond. */
    private static int near(int least, int most) {
        int kind = pick(40);
        if (kind == 0) return least - 1;
        if (kind == 1) return most + 1;
        if (kind == 2) return pick(2) == 0 ? Integer.MIN_VALUE : Integer.MAX_VALUE;
        return pick(least, most);
    }

    private Bundlesale x = new Bundlesale();
    private PlainHouse y = new PlainHouse();
    private int run;
    private int call;
    private String trail = "";
    private int greatestValue = 99;
    private int mostBids = 16;

    private void same(String name, Object got, Object want) {
        if (want == null || want.equals(PlainHouse.TOO_MANY)) {
            return;
        }
        boolean wasDue = Check.isAllDue();
        Check.due("run " + run + ", call " + call + " " + name, got, want);
        if (wasDue && !Check.isAllDue()) {
            System.out.println("the run: " + trail);
        }
    }

    private void both(String name, Check.Call one, Check.Call other) {
        Object want = Check.answer(other);
        if (want != null && want.equals(PlainHouse.TOO_MANY)) {
            return;
        }
        trail += name + "; ";
        same(name, Check.answer(one), want);
    }

    private int aBid() {
        return near(0, Math.max(0, y.house(1) - 1));
    }

    private int aBidder() {
        return near(0, Math.max(0, y.house(0) - 1));
    }

    private int aBundle() {
        int kind = pick(4);
        if (kind == 0) return near(1, 63);
        if (kind == 1) return 1 << pick(6) | 1 << pick(6);
        return 1 << pick(6);
    }

    private void doOne() {
        int kind = pick(30);
        if (kind < 2) { int f = near(0, 1); both("bidder(" + f + ")", () -> x.bidder(f), () -> y.bidder(f)); }
        else if (kind < 4) {
            int b = aBidder();
            int c = pick(3) == 0 ? -1 : pick(3) == 0 ? near(-1, 999) : pick(0, greatestValue * 2);
            both("budget(" + b + "," + c + ")", () -> x.budget(b, c), () -> y.budget(b, c));
        } else if (kind < 13) {
            if (y.house(1) >= mostBids && pick(5) != 0) return;
            int b = aBidder(), g = aBundle(), v = pick(8) == 0 ? near(1, 99) : pick(1, greatestValue);
            both("bid(" + b + "," + g + "," + v + ")", () -> x.bid(b, g, v), () -> y.bid(b, g, v));
        } else if (kind < 15) {
            int b = aBid(), v = pick(8) == 0 ? near(1, 99) : pick(1, greatestValue);
            both("change(" + b + "," + v + ")", () -> x.change(b, v), () -> y.change(b, v));
        } else if (kind < 16) { int b = aBid(); both("withdraw(" + b + ")", () -> x.withdraw(b), () -> y.withdraw(b)); }
        else if (kind < 17) {
            int g = near(0, 5);
            boolean o = pick(3) == 0;
            both("out(" + g + "," + o + ")", () -> x.out(g, o), () -> y.out(g, o));
        } else if (kind < 19) {
            int g = near(0, 5), h = near(0, 5);
            boolean j = pick(3) == 0;
            both("join(" + g + "," + h + "," + j + ")", () -> x.join(g, h, j), () -> y.join(g, h, j));
        } else if (kind < 20) {
            int m = pick(3) == 0 ? near(0, 16) : 16;
            both("limit(" + m + ")", () -> x.limit(m), () -> y.limit(m));
        } else if (kind < 22) {
            int g = near(0, 5), c = pick(2) == 0 ? near(0, 99) : pick(0, greatestValue);
            both("price(" + g + "," + c + ")", () -> x.price(g, c), () -> y.price(g, c));
        } else if (kind < 23) {
            type();
        } else if (kind < 25) {
            int b = aBidder();
            int[] w = {near(0, 12), near(0, 12), near(0, 12)};
            if (pick(5) != 0) Arrays.sort(w);
            both("worths(" + b + "," + w[2] + "," + w[1] + "," + w[0] + ")",
                () -> x.worths(b, w[2], w[1], w[0]), () -> y.worths(b, w[2], w[1], w[0]));
        } else if (kind < 27) {
            boolean b = pick(2) == 0;
            int c = pick(2) == 0 ? near(1, 999) : pick(1, 20);
            both("offer(" + b + "," + c + ")", () -> x.offer(b, c), () -> y.offer(b, c));
        } else if (kind < 28) {
            boolean f = pick(4) == 0;
            both("freeze(" + f + ")", () -> x.freeze(f), () -> y.freeze(f));
        } else if (kind < 29) {
            if (pick(3) == 0) { int r = near(0, 2); both("sell(" + r + ")", () -> x.sell(r), () -> y.sell(r)); }
            else { int g = near(0, 5); both("giveUp(" + g + ")", () -> x.giveUp(g), () -> y.giveUp(g)); }
        } else {
            if (pick(4) == 0) both("knock()", () -> x.knock(), () -> y.knock());
            else both("undo()", () -> x.undo(), () -> y.undo());
        }
    }

    private void say(int[] c) {
        both("say" + Arrays.toString(c), () -> x.say(c[0], c[1], c[2], c[3], c[4], c[5]), () -> y.say(c));
    }

    private void type() {
        int kind = pick(4);
        if (kind == 0) {
            both("enter()", () -> x.enter(), () -> y.enter());
        } else if (kind == 1) {
            say(new int[] {near(-1, 14), near(-1, 14), pick(0, 12), pick(0, 12), pick(0, 12), pick(0, 12)});
        } else {
            int good = pick(0, 5);
            int more = pick(3) == 0 ? pick(good, 5) : -1;
            say(new int[] {pick(6) == 0 ? 14 : 12, pick(0, 3), 10, good, more, 11});
            say(new int[] {pick(0, 9), pick(3) == 0 ? pick(0, 9) : -1, pick(10) == 0 ? 13 : -1, -1, -1, -1});
            if (pick(2) == 0) both("enter()", () -> x.enter(), () -> y.enter());
        }
    }

    private void askOne() {
        switch (pick(31)) {
            case 0: { int b = aBid(), w = near(0, 5); both("ofBid(" + b + "," + w + ")", () -> x.ofBid(b, w), () -> y.ofBid(b, w)); break; }
            case 1: both("list()", () -> x.list(), () -> y.list()); break;
            case 2: both("typed()", () -> x.typed(), () -> y.typed()); break;
            case 3: both("fault()", () -> x.fault(), () -> y.fault()); break;
            case 4: { int g = near(0, 5); both("team(" + g + ")", () -> x.team(g), () -> y.team(g)); break; }
            case 5: { int g = near(0, 5); both("owner(" + g + ")", () -> x.owner(g), () -> y.owner(g)); break; }
            case 6: both("forms()", () -> x.forms(), () -> y.forms()); break;
            case 7: both("sale()", () -> x.sale(), () -> y.sale()); break;
            case 8: { boolean h = pick(2) == 0; both("bound(" + h + ")", () -> x.bound(h), () -> y.bound(h)); break; }
            case 9: both("count()", () -> x.count(), () -> y.count()); break;
            case 10: { int g = near(0, 15); both("worth(" + g + ")", () -> x.worth(g), () -> y.worth(g)); break; }
            case 11: { int b = aBidder(), w = near(0, 2); both("gets(" + b + "," + w + ")", () -> x.gets(b, w), () -> y.gets(b, w)); break; }
            case 12: { int b = aBidder(), r = near(0, 2); both("pays(" + b + "," + r + ")", () -> x.pays(b, r), () -> y.pays(b, r)); break; }
            case 13: both("cuts()", () -> x.cuts(), () -> y.cuts()); break;
            case 14: {
                int b = aBid(), v = near(1, 99), r = near(0, 1);
                both("gain(" + b + "," + v + "," + r + ")", () -> x.gain(b, v, r), () -> y.gain(b, v, r));
                break;
            }
            case 15: {
                int b = aBid(), r = near(0, 1);
                both("lie(" + b + "," + r + ")", () -> x.lie(b, r), () -> y.lie(b, r));
                break;
            }
            case 16: { int b = aBidder(); both("demand(" + b + ")", () -> x.demand(b), () -> y.demand(b)); break; }
            case 17: both("hold()", () -> x.hold(), () -> y.hold()); break;
            case 18: {
                int t = near(5, 50);
                boolean a = pick(2) == 0;
                both("clock(" + t + "," + a + ")", () -> x.clock(t, a), () -> y.clock(t, a));
                break;
            }
            case 19: { int t = near(5, 50); both("proxy(" + t + ")", () -> x.proxy(t), () -> y.proxy(t)); break; }
            case 20: {
                int g = near(0, 5), k = near(0, 2), l = pick(2) == 0 ? 0 : near(0, 99);
                both("single(" + g + "," + k + "," + l + ")", () -> x.single(g, k, l), () -> y.single(g, k, l));
                break;
            }
            case 21: {
                int m = near(0, 12), k = near(0, 2);
                both("handOut(" + m + "," + k + ")", () -> x.handOut(m, k), () -> y.handOut(m, k));
                break;
            }
            case 22: both("trades()", () -> x.trades(), () -> y.trades()); break;
            case 23: both("lost()", () -> x.lost(), () -> y.lost()); break;
            case 24: both("matched()", () -> x.matched(), () -> y.matched()); break;
            case 25: {
                int g = near(0, 5);
                boolean l = pick(2) == 0;
                both("edge(" + g + "," + l + ")", () -> x.edge(g, l), () -> y.edge(g, l));
                break;
            }
            case 26: both("stand()", () -> x.stand(), () -> y.stand()); break;
            case 27: { int b = aBidder(); both("shapley(" + b + ")", () -> x.shapley(b), () -> y.shapley(b)); break; }
            case 28: { int b = aBidder(), c = near(0, 9999); both("fee(" + b + "," + c + ")", () -> x.fee(b, c), () -> y.fee(b, c)); break; }
            case 29: { int w = near(0, 11); both("house(" + w + ")", () -> x.house(w), () -> y.house(w)); break; }
            default: both("isSound()", () -> x.isSound(), () -> y.isSound()); break;
        }
    }

    private void oneRun(int number, int calls) {
        run = number;
        seed = number * 7919L + 17;
        for (int k = 0; k < 5; k++) pick(2);
        int[] greatest = {2, 6, 15, 40, 99};
        greatestValue = greatest[pick(5)];
        mostBids = pick(3) == 0 ? 16 : pick(4, 10);
        int bidders = pick(5);
        for (int k = 0; k < bidders; k++) {
            int f = pick(2);
            both("bidder(" + f + ")", () -> x.bidder(f), () -> y.bidder(f));
        }
        for (call = 0; call < calls && Check.isAllDue(); call++) {
            if (pick(2) == 0) {
                doOne();
            } else {
                askOne();
            }
            if (call % 50 == 49) {
                both("digest()", () -> x.digest(), () -> y.digest());
            }
        }
    }

    /** A house in which GROUPS are often in the way: some who want one GOOD each, and rivals who want several. */
    private void oneOfPayments(int number) {
        run = number;
        seed = number * 104729L + 5;
        for (int k = 0; k < 5; k++) pick(2);
        int bidders = pick(3, 4);
        int singles = pick(2, bidders);
        int greatest = singles == 4 ? 9 : bidders == 4 && singles == 3 ? 11 : 25;
        for (int k = 0; k < bidders; k++) {
            int f = pick(2);
            both("bidder(" + f + ")", () -> x.bidder(f), () -> y.bidder(f));
        }
        int[] order = {0, 1, 2, 3};
        for (int k = 3; k > 0; k--) {
            int other = pick(k + 1);
            int kept = order[k];
            order[k] = order[other];
            order[other] = kept;
        }
        int at = 0;
        for (int b : order) {
            if (b >= bidders) continue;
            if (at < singles) {
                aBidOf(b, 1 << at, pick(1, greatest));
                if (pick(4) == 0) aBidOf(b, 1 << pick(6), pick(1, greatest));
                if (singles == bidders) aBidOf(b, 1 << pick(singles) | 1 << pick(singles), pick(1, greatest * 2));
            } else {
                for (int k = pick(1, 4); k > 0; k--) aBidOf(b, pick(1, (2 << singles) - 1), pick(1, greatest * 2));
            }
            at++;
        }
        both("cuts()", () -> x.cuts(), () -> y.cuts());
        for (int b = 0; b < bidders; b++) {
            int who = b;
            both("pays(" + b + ",1)", () -> x.pays(who, 1), () -> y.pays(who, 1));
            both("pays(" + b + ",2)", () -> x.pays(who, 2), () -> y.pays(who, 2));
        }
    }

    private void aBidOf(int b, int g, int v) {
        both("bid(" + b + "," + g + "," + v + ")", () -> x.bid(b, g, v), () -> y.bid(b, g, v));
    }

    public static void main(String[] args) {
        int runs = args.length > 0 ? Integer.parseInt(args[0]) : 120;
        int first = args.length > 1 ? Integer.parseInt(args[1]) : 0;
        for (int number = first; number < first + runs && Check.isAllDue(); number++) {
            new CompareTest().oneRun(number, 440);
        }
        for (int number = first; number < first + runs * 10 && Check.isAllDue(); number++) {
            new CompareTest().oneOfPayments(number);
        }
        Check.end("CompareTest");
    }
}
