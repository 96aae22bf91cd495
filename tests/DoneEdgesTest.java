/** Promises 1 to 19 at their edges: the last that is let, the first that is not, nothing yet, everything full. */
public final class DoneEdgesTest {
    private static void promise1() {
        Bundlesale x = new Bundlesale();
        Check.refused("1: no BIDDER has a BUDGET", x, Check.INDEX, () -> x.budget(0, 5));
        Check.refused("1: no BIDDER bids", x, Check.INDEX, () -> x.bid(0, 1, 5));
        Check.refused("1: no BID is changed", x, Check.INDEX, () -> x.change(0, 5));
        Check.refused("1: no BID is withdrawn", x, Check.INDEX, () -> x.withdraw(0));
        Check.refused("1: no BIDDER has WORTHS", x, Check.INDEX, () -> x.worths(0, 1, 1, 1));
        Check.refused("1: no call is undone", x, Check.STATE, () -> x.undo());
        Check.changingNothing("1: nothing is sold", x, -9, () -> x.sell(2));
        for (int good = 0; good <= 5; good++) {
            int each = good;
            Check.changingNothing("1: nobody gives up " + good, x, -9, () -> x.giveUp(each));
            Check.due("1: LIVE " + good, x.owner(good), -1);
            Check.due("1: without others " + good, x.team(good), 1 << good);
            Check.due("1: PRICE " + good, x.price(good, 0), 0);
        }
    }

    private static void promise2() {
        Bundlesale x = new Bundlesale();
        Check.beyond("2: FORM", x, 0, 1, Check.ARGUMENT, form -> x.bidder(form));
        Check.due("2: FORM 0", x.bidder(0), 0);
        Check.due("2: FORM 1", x.bidder(1), 1);
        Check.due("2: the third", x.bidder(0), 2);
        Check.due("2: the fourth is let", x.bidder(1), 3);
        Check.refused("2: the fifth of FORM 0", x, Check.STATE, () -> x.bidder(0));
        Check.refused("2: the fifth of FORM 1", x, Check.STATE, () -> x.bidder(1));
        Check.beyond("2: the FORM is named ahead of the 4, FORM", x, 0, 1, Check.ARGUMENT, form -> x.bidder(form));
        for (int bidder = 0; bidder < 4; bidder++) {
            Check.due("2: without BUDGET", x.budget(bidder, 7), -1);
            Check.due("2: without WORTHS", x.worths(bidder, 3, 2, 1), 0);
        }
        for (int k = 0; k < 9; k++) {
            x.undo();
        }
        Check.due("2: one that has gone leaves room", x.bidder(1), 3);
        Check.due("2: and no BUDGET", x.budget(3, 7), -1);
        Check.due("2: and no WORTHS", x.worths(3, 1, 1, 1), 0);
    }

    /** FORM 0 wins one BID even where six would fit, FORM 1 all six. */
    private static void formsOfBidders() {
        Bundlesale x = Houses.with(0, 1);
        for (int good = 0; good < 6; good++) {
            x.bid(0, 1 << good, 10 + good);
        }
        Check.due("2: FORM 0 has one of six", x.sale(), "5");
        for (int good = 0; good < 6; good++) {
            x.bid(1, 1 << good, 9);
        }
        Check.due("2: FORM 1 has all that fit", x.sale(), "5 6 7 8 9 10");
    }

    private static void promise3() {
        Bundlesale x = Houses.with(1, 0);
        Check.beyond("3: BIDDER", x, 0, 1, Check.INDEX, bidder -> x.budget(bidder, 5));
        Check.beyond("3: coins", x, -1, 999, Check.ARGUMENT, coins -> x.budget(1, coins));
        Check.beyond("3: the BIDDER is named ahead of coins", x, 0, 1, Check.INDEX, bidder -> x.budget(bidder, 1000));
        Check.due("3: the most", x.budget(0, 999), -1);
        Check.due("3: the least", x.budget(0, 0), 999);
        Check.due("3: none", x.budget(0, -1), 0);
        Check.due("3: none again", x.budget(0, -1), -1);
        x.bid(0, 1, 30);
        x.bid(0, 2, 30);
        int[][] budgetAndHas = {{61, 60}, {60, 60}, {59, 59}, {1, 1}, {0, 0}, {-1, 60}, {999, 60}};
        for (int[] each : budgetAndHas) {
            x.budget(0, each[0]);
            Check.due("3: what it has with " + each[0], x.bound(false), each[1]);
        }
    }

    private static void promise4() {
        Bundlesale x = Houses.with(0, 1);
        Check.beyond("4: BIDDER", x, 0, 1, Check.INDEX, bidder -> x.bid(bidder, 1, 5));
        Check.beyond("4: BUNDLE", x, 1, 63, Check.ARGUMENT, bundle -> x.bid(0, bundle, 5));
        Check.beyond("4: VALUE", x, 1, 99, Check.ARGUMENT, value -> x.bid(0, 1, value));
        Check.beyond("4: the BIDDER ahead of BUNDLE and VALUE", x, 0, 1, Check.INDEX, who -> x.bid(who, 64, 0));
        Check.due("4: the least BUNDLE and VALUE", x.bid(0, 1, 1), 0);
        Check.due("4: the greatest ones", x.bid(1, 63, 99), 1);
        Check.due("4: as they are told", x.list(), "0:0=1;1:012345=99");
        Check.changingNothing("4: the BUNDLE once more", x, -9, () -> x.bid(0, 1, 99));
        Check.changingNothing("4: the same VALUE once more", x, -9, () -> x.bid(1, 63, 99));
        Check.due("4: of another BIDDER it is let", x.bid(1, 1, 99), 2);
        x.withdraw(0);
        Check.due("4: once withdrawn, it is let again", x.bid(0, 1, 2), 2);
        x.sell(0);
        Check.due("4: sold, it is let again, though it can't win", x.bid(1, 63, 98), 2);
        Check.due("4: it can't", x.ofBid(2, 4), 0);
    }

    private static void bidsFullOrFrozen() {
        Bundlesale x = Houses.withBids(15, 1, 0);
        Check.due("4: the 16th is let", x.bid(1, 63, 7), 15);
        Check.refused("4: the 17th", x, Check.STATE, () -> x.bid(1, 1, 7));
        Check.refused("4: the 17th ahead of -9", x, Check.STATE, () -> x.bid(0, 1, 7));
        Check.refused("4: the BIDDER ahead of the 17th", x, Check.INDEX, () -> x.bid(2, 1, 7));
        Check.refused("4: the BUNDLE ahead of the 17th", x, Check.ARGUMENT, () -> x.bid(1, 0, 7));
        Check.refused("4: the VALUE ahead of the 17th", x, Check.ARGUMENT, () -> x.bid(1, 1, 100));
        x.freeze(true);
        Check.refused("4: full and FROZEN", x, Check.STATE, () -> x.bid(1, 1, 7));
        x.freeze(false);
        x.withdraw(0);
        Check.due("4: as one goes, one is let", x.bid(1, 1, 7), 15);
        Bundlesale y = Houses.withBids(1, 1);
        y.freeze(true);
        Check.refused("4: FROZEN", y, Check.STATE, () -> y.bid(0, 2, 7));
        Check.refused("4: FROZEN ahead of -9", y, Check.STATE, () -> y.bid(0, 1, 7));
        Check.refused("4: the BIDDER ahead of FROZEN", y, Check.INDEX, () -> y.bid(1, 2, 7));
        Check.refused("4: the BUNDLE ahead of FROZEN", y, Check.ARGUMENT, () -> y.bid(0, 64, 7));
        Check.refused("4: the VALUE ahead of FROZEN", y, Check.ARGUMENT, () -> y.bid(0, 2, 0));
        y.freeze(false);
        Check.due("4: not any more", y.bid(0, 2, 7), 1);
    }

    private static void promise5() {
        Bundlesale x = Houses.withBids(16, 1);
        Check.beyond("5: BID", x, 0, 15, Check.INDEX, bid -> x.change(bid, 5));
        Check.beyond("5: VALUE", x, 1, 99, Check.ARGUMENT, value -> x.change(15, value));
        Check.beyond("5: the BID ahead of the VALUE", x, 0, 15, Check.INDEX, bid -> x.change(bid, 100));
        Check.due("5: the first one, the greatest VALUE", x.change(0, 99), 10);
        Check.due("5: the last one, the least VALUE", x.change(15, 1), 10);
        Check.due("5: the last one again", x.change(15, 2), 1);
        Check.due("5: the first one then", x.ofBid(0, 2), 99);
        x.freeze(true);
        Check.refused("5: FROZEN", x, Check.STATE, () -> x.change(0, 98));
        Check.refused("5: FROZEN, the same VALUE", x, Check.STATE, () -> x.change(0, 99));
        Check.refused("5: the BID ahead of FROZEN", x, Check.INDEX, () -> x.change(16, 98));
        Check.refused("5: the VALUE ahead of FROZEN", x, Check.ARGUMENT, () -> x.change(0, 100));
        x.freeze(false);
        Check.due("5: not any more", x.change(0, 98), 99);
    }

    private static void promise6() {
        Bundlesale x = Houses.withBids(16, 1);
        Check.beyond("6: BID", x, 0, 15, Check.INDEX, bid -> x.withdraw(bid));
        x.freeze(true);
        Check.refused("6: FROZEN", x, Check.STATE, () -> x.withdraw(0));
        Check.refused("6: the BID ahead of FROZEN", x, Check.INDEX, () -> x.withdraw(16));
        x.freeze(false);
        Check.due("6: the last one", x.withdraw(15), 15);
        Check.beyond("6: BID of 15", x, 0, 14, Check.INDEX, bid -> x.withdraw(bid));
        Check.due("6: the first one", x.withdraw(0), 14);
        Check.due("6: all behind are 1 less", x.ofBid(0, 1), 2);
        Check.due("6: the last one too", x.ofBid(13, 1), 15);
        Check.due("6: one between", x.withdraw(5), 13);
        Check.due("6: those ahead stay", x.ofBid(4, 1), 6);
        Check.due("6: those behind follow", x.ofBid(5, 1), 8);
        for (int left = 12; left >= 0; left--) {
            Check.due("6: until none is left", x.withdraw(left), left);
        }
        Check.beyond("6: none is left, BID", x, 0, -1, Check.INDEX, bid -> x.withdraw(bid));
    }

    private static void promise7() {
        Bundlesale x = Houses.with(0);
        Check.beyond("7: GOOD", x, 0, 5, Check.INDEX, good -> x.out(good, true));
        Check.beyond("7: GOOD, LIVE", x, 0, 5, Check.INDEX, good -> x.out(good, false));
        Check.due("7: LIVE though it is", x.out(0, false), 6);
        for (int good = 0; good <= 5; good++) {
            Check.due("7: out " + good, x.out(good, true), 5 - good);
        }
        Check.due("7: none is LIVE, once more", x.out(5, true), 0);
        for (int good = 0; good <= 5; good++) {
            Check.due("7: LIVE again " + good, x.out(good, false), good + 1);
        }
        x.bid(0, 33, 5);
        x.sell(0);
        Check.changingNothing("7: SOLD can't be OUT", x, -9, () -> x.out(0, true));
        Check.changingNothing("7: SOLD can't be LIVE", x, -9, () -> x.out(5, false));
        Check.refused("7: a throw ahead of -9", x, Check.INDEX, () -> x.out(6, true));
        Check.due("7: SOLD ones are not LIVE", x.out(1, true), 3);
        x.giveUp(5);
        Check.due("7: given back, it can be OUT", x.out(5, true), 3);
    }

    private static void promise8() {
        Bundlesale x = new Bundlesale();
        Check.beyond("8: GOOD", x, 0, 5, Check.INDEX, good -> x.join(good, 0, true));
        Check.beyond("8: other GOOD", x, 0, 5, Check.INDEX, other -> x.join(0, other, true));
        Check.beyond("8: both alike, but none", x, 0, 5, Check.INDEX, good -> x.join(good, good, true));
        Check.beyond("8: GOOD, not any more", x, 0, 5, Check.INDEX, good -> x.join(good, 5, false));
        for (int good = 0; good <= 5; good++) {
            int same = good;
            Check.refused("8: the same " + good, x, Check.ARGUMENT, () -> x.join(same, same, true));
            Check.refused("8: the same, not any more, " + good, x, Check.ARGUMENT, () -> x.join(same, same, false));
        }
        for (int good = 0; good < 5; good++) {
            Check.due("8: a chain to " + (good + 1), x.join(good, good + 1, true), (4 << good) - 1);
        }
        for (int good = 0; good <= 5; good++) {
            Check.due("8: all one TEAM, " + good, x.team(good), 63);
        }
        Check.due("8: joined once more", x.join(3, 2, true), 63);
        Check.due("8: not any more, told the other way", x.join(3, 2, false), 56);
        Check.due("8: the other side", x.team(2), 7);
        Check.due("8: a ring", x.join(0, 2, true), 7);
        Check.due("8: a ring less one holds", x.join(0, 1, false), 7);
        Check.due("8: less two", x.join(0, 2, false), 1);
        Check.due("8: the ends", x.join(5, 0, true), 57);
        Check.due("8: not joined with each other, one TEAM still", x.join(3, 5, false), 57);
    }

    private static void promise9() {
        Bundlesale x = Houses.withBids(16, 1);
        Check.beyond("9: LIMIT", x, 0, 16, Check.ARGUMENT, many -> x.limit(many));
        Check.due("9: 16 are not more than 16", x.count(), 1);
        Check.due("9: 16 at first", x.limit(15), 16);
        Check.due("9: 16 are more than 15", x.count(), -9);
        Check.due("9: 15 before", x.limit(0), 15);
        Check.due("9: 0 before", x.limit(0), 0);
        Check.due("9: 0 is LIMIT", x.house(4), 0);
        Check.due("9: OPEN", x.count(), -9);
        for (int good = 0; good <= 5; good++) {
            x.out(good, true);
        }
        Check.due("9: without one that CAN win it is not OPEN", x.count(), 1);
        Check.due("9: 16 again", x.limit(16), 0);
        Check.due("9: told", x.house(4), 16);
    }

    private static void promise10() {
        Bundlesale x = new Bundlesale();
        Check.beyond("10: GOOD", x, 0, 5, Check.INDEX, good -> x.price(good, 5));
        Check.beyond("10: coins", x, 0, 99, Check.ARGUMENT, coins -> x.price(0, coins));
        Check.beyond("10: the GOOD ahead of coins", x, 0, 5, Check.INDEX, good -> x.price(good, 100));
        for (int good = 0; good <= 5; good++) {
            Check.due("10: 0 at first", x.price(good, 99), 0);
            Check.due("10: the most before", x.price(good, 10 + good), 99);
        }
        for (int good = 0; good <= 5; good++) {
            Check.due("10: each its own", x.price(good, 0), 10 + good);
            Check.due("10: the least before", x.price(good, 0), 0);
        }
    }

    private static int sayAt(Bundlesale x, int place, int code) {
        int[] c = {-1, -1, -1, -1, -1, -1};
        c[place] = code;
        return x.say(c[0], c[1], c[2], c[3], c[4], c[5]);
    }

    private static void promise11() {
        Bundlesale x = new Bundlesale();
        Check.due("11: nothing", x.say(-1, -1, -1, -1, -1, -1), 0);
        Check.due("11: the last sign of none", x.say(13, 13, -1, -1, -1, -1), 0);
        Check.due("11: all of none", x.say(14, -1, -1, -1, -1, -1), 0);
        for (int at = 0; at < 6; at++) {
            int place = at;
            Check.beyond("11: code at " + at, x, -1, 14, Check.ARGUMENT, code -> sayAt(x, place, code));
            for (int code = 0; code <= 12; code++) {
                Check.due("11: a sign at " + at, sayAt(x, at, code), 1);
                Check.due("11: it is " + code, x.typed(), "0123456789:=;".substring(code, code + 1));
                Check.due("11: nothing at " + at, sayAt(x, at, -1), 1);
                Check.due("11: the last sign goes by " + at, sayAt(x, at, 13), 0);
            }
            x.say(1, 2, 3, -1, -1, -1);
            Check.due("11: all go by " + at, sayAt(x, at, 14), 0);
        }
    }

    private static void sixtySigns() {
        Bundlesale x = new Bundlesale();
        for (int k = 1; k <= 9; k++) {
            Check.due("11: six more", x.say(1, 2, 3, 4, 5, 6), k * 6);
        }
        Check.due("11: the 55th", x.say(7, -1, -1, -1, -1, -1), 55);
        Check.refused("11: 61 with the sixth", x, Check.STATE, () -> x.say(1, 1, 1, 1, 1, 1));
        Check.due("11: the 60th", x.say(1, 1, 1, 1, 1, -1), 60);
        for (int at = 0; at < 6; at++) {
            int place = at;
            Check.refused("11: the 61st at " + at, x, Check.STATE, () -> sayAt(x, place, 0));
        }
        Check.refused("11: 61, then 60", x, Check.STATE, () -> x.say(0, 13, -1, -1, -1, -1));
        Check.refused("11: 61, then none", x, Check.STATE, () -> x.say(-1, -1, -1, -1, 0, 14));
        Check.refused("11: 60, 59, 60, 61", x, Check.STATE, () -> x.say(13, 0, 0, 13, 13, 13));
        Check.refused("11: a code ahead of the 61st", x, Check.ARGUMENT, () -> x.say(0, 0, 0, 0, 0, 15));
        Check.refused("11: a code below ahead of the 61st", x, Check.ARGUMENT, () -> x.say(0, -2, 0, 0, 0, 0));
        Check.due("11: nothing is let", x.say(-1, -1, -1, -1, -1, -1), 60);
        Check.due("11: 59, then 60", x.say(13, 8, 13, 9, 13, 0), 60);
        Check.due("11: the last one is told", x.typed().substring(54), "711110");
        Check.due("11: all go, five come", x.say(14, 0, 0, 0, 0, 0), 5);
        Check.due("11: more go than there are", x.say(13, 13, 13, 13, 13, 13), 0);
        Check.due("11: then one comes", x.say(13, 4, -1, -1, -1, -1), 1);
        Check.due("11: it is there", x.typed(), "4");
    }

    private static void promise12() {
        Bundlesale x = Houses.with(0, 1, 0, 1);
        Check.due("12: no PIECE", x.enter(), 0);
        Check.due("12: that can be undone", x.undo(), 4);
        Houses.type(x, ";;;;");
        Check.due("12: only empty ones", x.enter(), 0);
        Houses.type(x, "0:0=1;0:1=1;0:2=1;0:3=1;0:4=1;0:5=1;1:0=1;1:1=1;1:2=1;1:3=1;");
        Check.due("12: as many as 60 signs hold", x.enter(), 10);
        Check.due("12: in their order", x.list(), "0:0=1;0:1=1;0:2=1;0:3=1;0:4=1;0:5=1;1:0=1;1:1=1;1:2=1;1:3=1");
        Check.changingNothing("12: FAULT 0", x, -100, () -> x.enter());
        Houses.type(x, "2:0=1;2:1=1;2:2=1;2:3=1;2:4=1;2:5=1;3:0=1");
        Check.changingNothing("12: the 17th BID is FAULT 6", x, -106, () -> x.enter());
        Houses.type(x, "2:0=1;2:1=1;2:2=1;2:3=1;2:4=1;2:5=1;");
        Check.due("12: the 16th BID is let", x.enter(), 6);
        Houses.type(x, "3:0=1");
        Check.changingNothing("12: none is let beside 16", x, -100, () -> x.enter());
        x.freeze(true);
        Check.refused("12: FROZEN ahead of FAULT", x, Check.STATE, () -> x.enter());
        x.freeze(false);
        x.withdraw(0);
        Check.due("12: not any more, with room for it", x.enter(), 1);
    }

    private static void faultsOfEnter() {
        Bundlesale x = Houses.with(1, 1);
        Houses.type(x, "0:0=1;0:1=1;0:2=1;0:3=1;0:4=1;0:5=1;1:0=1;1:1=1;1:2=1;1:2=1");
        Check.changingNothing("12: the last PIECE is FAULT 9", x, -109, () -> x.enter());
        Houses.type(x, "1:0=01;1:12=99;;1:5=9");
        x.freeze(true);
        Check.refused("12: FROZEN", x, Check.STATE, () -> x.enter());
        x.freeze(false);
        Check.due("12: all three come", x.enter(), 3);
        Check.due("12: with their VALUES", x.list(), "1:0=1;1:12=99;1:5=9");
        Check.due("12: TYPED stays", x.typed(), "1:0=01;1:12=99;;1:5=9");
        x.undo();
        Check.due("12: all of them go by one undo()", x.list(), "");
    }

    private static void promise13() {
        Bundlesale x = Houses.with(0, 1);
        Check.beyond("13: BIDDER", x, 0, 1, Check.INDEX, bidder -> x.worths(bidder, 3, 2, 1));
        Check.beyond("13: the BIDDER ahead of WORTHS", x, 0, 1, Check.INDEX, bidder -> x.worths(bidder, 1, 2, 100));
        Check.due("13: the greatest", x.worths(0, 99, 99, 99), 0);
        Check.due("13: the least", x.worths(0, 0, 0, 0), 297);
        Check.due("13: others' stay", x.worths(1, 99, 99, 99), 0);
        Check.beyond("13: first", x, 99, 99, Check.ARGUMENT, first -> x.worths(0, first, 99, 99));
        Check.beyond("13: first, alone", x, 0, 99, Check.ARGUMENT, first -> x.worths(0, first, 0, 0));
        Check.beyond("13: second", x, 7, 50, Check.ARGUMENT, second -> x.worths(0, 50, second, 7));
        Check.beyond("13: second, alone", x, 0, 50, Check.ARGUMENT, second -> x.worths(0, 50, second, 0));
        Check.beyond("13: third", x, 0, 20, Check.ARGUMENT, third -> x.worths(0, 50, 20, third));
        Check.refused("13: third, no more than the first", x, Check.ARGUMENT, () -> x.worths(0, 50, 20, 50));
        Check.refused("13: all too many", x, Check.ARGUMENT, () -> x.worths(0, 100, 100, 100));
        Check.due("13: as many as the one ahead", x.worths(0, 50, 50, 50), 0);
        Check.due("13: one less each", x.worths(0, 50, 49, 48), 150);
        Check.due("13: none behind", x.worths(0, 1, 0, 0), 147);
        Check.due("13: together", x.worths(0, 0, 0, 0), 1);
    }

    private static void promise14() {
        for (int side = 0; side <= 1; side++) {
            boolean isBuyer = side == 0;
            Bundlesale x = new Bundlesale();
            Check.beyond("14: coins", x, 1, 999, Check.ARGUMENT, coins -> x.offer(isBuyer, coins));
            Check.due("14: the least", x.offer(isBuyer, 1), 1);
            Check.due("14: the most", x.offer(isBuyer, 999), 2);
            for (int k = 3; k <= 7; k++) {
                Check.due("14: more", x.offer(isBuyer, k), k);
            }
            Check.due("14: the 8th is let", x.offer(isBuyer, 5), 8);
            Check.refused("14: the 9th", x, Check.STATE, () -> x.offer(isBuyer, 5));
            Check.beyond("14: coins ahead of the 9th", x, 1, 999, Check.ARGUMENT, coins -> x.offer(isBuyer, coins));
            for (int k = 1; k <= 8; k++) {
                Check.due("14: the others have room", x.offer(!isBuyer, 5), k);
            }
            Check.refused("14: the 9th of the others", x, Check.STATE, () -> x.offer(!isBuyer, 5));
        }
    }

    private static void promise15() {
        Bundlesale x = Houses.withBids(2, 1);
        Houses.type(x, "0:5=5");
        Check.due("15: not at first", x.freeze(true), false);
        Check.refused("15: no BID comes", x, Check.STATE, () -> x.bid(0, 63, 5));
        Check.refused("15: no BID is changed", x, Check.STATE, () -> x.change(0, 5));
        Check.refused("15: no BID is withdrawn", x, Check.STATE, () -> x.withdraw(0));
        Check.refused("15: no BID is entered", x, Check.STATE, () -> x.enter());
        Check.due("15: a BIDDER comes", x.bidder(0), 1);
        Check.due("15: a BUDGET", x.budget(0, 500), -1);
        Check.due("15: out", x.out(5, true), 5);
        Check.due("15: joined", x.join(3, 4, true), 24);
        Check.due("15: LIMIT", x.limit(15), 16);
        Check.due("15: PRICE", x.price(0, 1), 0);
        Check.due("15: typed", x.say(12, -1, -1, -1, -1, -1), 6);
        Check.due("15: WORTHS", x.worths(0, 1, 0, 0), 0);
        Check.due("15: a BUYER", x.offer(true, 1), 1);
        Check.due("15: refused", x.knock(), 1);
        Check.due("15: sold", x.sell(0), 20);
        Check.due("15: given back", x.giveUp(0), 0);
        Check.due("15: FROZEN still", x.freeze(true), true);
        for (int k = 0; k < 13; k++) {
            x.undo();
        }
        Check.due("15: undone, not FROZEN", x.house(10), 0);
        Check.due("15: a BID comes", x.bid(0, 63, 5), 2);
        Check.due("15: never FROZEN", x.freeze(false), false);
    }

    private static void promise16() {
        Bundlesale x = Houses.with(0, 1);
        for (int rule = 0; rule <= 2; rule++) {
            int each = rule;
            Check.changingNothing("16: without BIDS, RULE " + rule, x, -9, () -> x.sell(each));
        }
        Check.beyond("16: RULE ahead of the empty BEST", x, 0, 2, Check.ARGUMENT, rule -> x.sell(rule));
        x.bid(0, 3, 10);
        x.bid(1, 1, 3);
        x.bid(1, 4, 5);
        x.out(0, true);
        x.out(2, true);
        Check.changingNothing("16: none CAN win", x, -9, () -> x.sell(0));
        x.out(0, false);
        x.out(2, false);
        x.budget(0, 0);
        x.budget(1, 0);
        Check.changingNothing("16: none has WORTH: the BEST has no BID", x, -9, () -> x.sell(1));
        x.budget(0, -1);
        x.budget(1, -1);
        x.limit(2);
        Check.changingNothing("16: OPEN", x, -9, () -> x.sell(0));
        Check.beyond("16: RULE ahead of OPEN", x, 0, 2, Check.ARGUMENT, rule -> x.sell(rule));
        x.limit(3);
        Check.beyond("16: RULE", x, 0, 2, Check.ARGUMENT, rule -> x.sell(rule));
        int[] together = {15, 3, 3};
        for (int rule = 0; rule <= 2; rule++) {
            Check.due("16: as many as LIMIT, RULE " + rule, x.sell(rule), together[rule]);
            Check.due("16: those in the BEST go", x.list(), "1:0=3");
            Check.due("16: GOOD 1", x.owner(1), 0);
            Check.due("16: GOOD 2", x.owner(2), 1);
            Check.due("16: GOOD 3 stays LIVE", x.owner(3), -1);
            Check.changingNothing("16: what is left can't win", x, -9, () -> x.sell(0));
            x.undo();
        }
    }

    /** A call that sells for nothing is done, and can be undone. */
    private static void soldForNothing() {
        Bundlesale x = Houses.with(0);
        x.bid(0, 63, 99);
        x.freeze(true);
        Check.due("16: nobody else wants it", x.sell(1), 0);
        for (int good = 0; good <= 5; good++) {
            Check.due("16: all is SOLD", x.owner(good), 0);
        }
        Check.due("16: none is LIVE", x.house(3), 0);
        Check.due("16: nothing was paid", x.house(8), 0);
        Check.due("16: it can be undone", x.undo(), 3);
        Check.due("16: the BID is back", x.list(), "0:012345=99");
        Check.due("16: by RULE 2 nothing either", x.sell(2), 0);
        Bundlesale y = Houses.withBids(16, 1);
        Check.due("16: of 16 BIDS those on one GOOD each", y.sell(0), 50);
        Check.due("16: these five go", y.house(1), 11);
    }

    private static void promise17() {
        Bundlesale x = Houses.with(0, 1);
        Check.beyond("17: GOOD", x, 0, 5, Check.INDEX, good -> x.giveUp(good));
        x.out(3, true);
        Check.changingNothing("17: LIVE", x, -9, () -> x.giveUp(0));
        Check.changingNothing("17: OUT", x, -9, () -> x.giveUp(3));
        x.bid(0, 32, 4);
        x.bid(1, 3, 9);
        x.sell(0);
        Check.due("17: of BIDDER 0", x.giveUp(5), 0);
        Check.due("17: of BIDDER 1", x.giveUp(0), 1);
        Check.changingNothing("17: but once", x, -9, () -> x.giveUp(0));
        Check.beyond("17: a throw ahead of -9, GOOD", x, 0, 5, Check.INDEX, good -> x.giveUp(good));
        Check.due("17: LIVE again", x.owner(0), -1);
        Check.due("17: the rest of the BUNDLE stays", x.owner(1), 1);
        Check.due("17: what was paid stays paid", x.house(8), 13);
        Check.due("17: of each", x.gets(0, 2), 4);
        x.bid(0, 1, 7);
        Check.due("17: it can be SOLD again", x.sell(0), 7);
        Check.due("17: to another one", x.owner(0), 0);
    }

    private static void promise18() {
        Bundlesale x = Houses.with(0);
        for (int k = 1; k <= 38; k++) {
            x.price(0, k);
        }
        Check.due("18: 39", x.house(9), 39);
        x.price(0, 39);
        Check.due("18: the 40th", x.house(9), 40);
        x.price(0, 40);
        Check.due("18: no more than 40", x.house(9), 40);
        Check.refused("18: one that threw", x, Check.ARGUMENT, () -> x.price(0, 100));
        Check.changingNothing("18: one that told -9", x, -9, () -> x.giveUp(0));
        x.knock();
        Check.due("18: the last one of all", x.undo(), 39);
        Check.due("18: is undone", x.price(0, 50), 39);
        Check.due("18: another one in its place", x.house(9), 40);
        for (int left = 39; left >= 0; left--) {
            Check.due("18: one after the other", x.undo(), left);
        }
        Check.refused("18: the 41st", x, Check.STATE, () -> x.undo());
        Check.due("18: the BIDDER stays", x.house(0), 1);
        Check.due("18: the first PRICE is what the oldest call found", x.price(0, 0), 0);
        Check.due("18: how many were refused stays", x.house(11), 1);
    }

    /** The first of 41 calls can't be undone, the second one can. */
    private static void firstOfManyCalls() {
        Bundlesale x = new Bundlesale();
        x.limit(3);
        x.limit(4);
        for (int k = 1; k <= 39; k++) {
            x.price(0, k);
        }
        for (int left = 39; left >= 0; left--) {
            x.undo();
        }
        Check.due("18: the 40 last ones are undone", x.house(4), 3);
        Check.due("18: PRICE too", x.price(0, 0), 0);
    }

    /** In a full house, too, all is as it was after 40 calls of all kinds are undone. */
    private static void undoInFullHouse() {
        Bundlesale x = Houses.full();
        String before = Snapshot.stateOf(x);
        Check.Call[] calls = {() -> x.budget(0, 20), () -> x.change(3, 99), () -> x.withdraw(15), () -> x.bid(3, 1, 7),
            () -> x.out(5, true), () -> x.join(1, 2, true), () -> x.limit(3), () -> x.price(0, 9),
            () -> x.say(14, 0, 10, 5, 11, 7), () -> x.worths(0, 5, 4, 3), () -> x.freeze(true), () -> x.limit(16),
            () -> x.sell(2), () -> x.freeze(false), () -> x.enter(), () -> x.out(5, false), () -> x.join(1, 2, false),
            () -> x.withdraw(0), () -> x.price(5, 99), () -> x.budget(1, 0)};
        int done = 0;
        for (int k = 0; done < 40; k++) {
            Object told = Check.answer(calls[k % calls.length]);
            boolean isDone = told instanceof Boolean || told instanceof Integer && (Integer) told > -9;
            done += isDone ? 1 : 0;
            Check.due("18: full, one takes the place of another, " + k, x.house(9), 40);
            x.knock();
        }
        Check.due("18: full, something is changed", Snapshot.stateOf(x).equals(before), false);
        for (int left = 39; left >= 0; left--) {
            Check.due("18: full, undone", x.undo(), left);
        }
        Check.due("18: full, as it was", Snapshot.stateOf(x), before);
    }

    /** A BIDDER whose coming is undone is in nothing that is asked then, though it was in all of it before. */
    private static void undoOfABidder() {
        for (int form = 0; form <= 1; form++) {
            Bundlesale alone = Houses.with(form);
            alone.bid(0, 1, 10);
            Bundlesale x = Houses.with(form);
            x.bid(0, 1, 10);
            x.bidder(1);
            x.bid(1, 2, 70);
            x.bid(1, 5, 25);
            x.worths(1, 9, 8, 7);
            Snapshot.of(x);
            for (int k = 0; k < 4; k++) {
                x.undo();
            }
            Check.due("18: as if it had not come", Snapshot.of(x), Snapshot.of(alone));
            x.bidder(1);
            alone.bidder(1);
            Check.due("18: it comes again, without anything", Snapshot.of(x), Snapshot.of(alone));
            x.undo();
            Check.due("16: just the other one pays", x.sell(0), 10);
            Check.due("49: and nobody else", x.house(8), 10);
        }
    }

    /** What the last of each kind is, is brought back too: the last BIDDER, BID, GOOD, WORTH, sign. */
    private static void undoOfTheLast() {
        Bundlesale x = Houses.with(1, 1, 1, 1);
        for (int k = 0; k < 16; k++) {
            x.bid(3 - k / 4, 1 << k % 4 | 32 >> k / 4, 30 + k);
        }
        x.budget(3, 77);
        x.worths(3, 9, 8, 7);
        x.price(5, 11);
        x.join(0, 1, true);
        for (int k = 0; k < 10; k++) {
            x.say(1, 2, 3, 4, 5, 6);
        }
        String before = Snapshot.of(x);
        Check.Call[] calls = {() -> x.budget(3, -1), () -> x.worths(3, 9, 8, 6), () -> x.worths(3, 8, 8, 7),
            () -> x.price(5, 12), () -> x.join(4, 5, true), () -> x.join(0, 1, false), () -> x.out(5, true),
            () -> x.change(15, 99), () -> x.withdraw(15), () -> x.withdraw(0), () -> x.say(13, 7, -1, -1, -1, -1),
            () -> x.say(14, 9, -1, -1, -1, -1), () -> x.limit(0), () -> x.freeze(true), () -> x.sell(0),
            () -> x.offer(true, 5), () -> x.offer(false, 5)};
        for (int k = 0; k < calls.length; k++) {
            calls[k].answer();
            Check.due("18: something is changed, " + k, Snapshot.of(x).equals(before), false);
            x.undo();
            Check.due("18: the last of each, " + k, Snapshot.of(x), before);
        }
        x.withdraw(15);
        x.bid(3, 63, 99);
        x.undo();
        x.undo();
        Check.due("18: another one in the place of the last BID", Snapshot.of(x), before);
        Bundlesale y = Houses.with(0, 0, 0, 0);
        y.bid(3, 32, 9);
        y.sell(0);
        y.undo();
        Check.due("18: the last one has not paid", y.gets(3, 2), 0);
        Check.due("18: the last GOOD is LIVE", y.owner(5), -1);
        Check.due("18: and its BID is there", y.list(), "3:5=9");
    }

    private static void promise19() {
        Bundlesale x = Houses.full();
        for (int k = 1; k <= 100; k++) {
            Check.due("19: each counts", x.knock(), k);
        }
        for (int k = 0; k < 40; k++) {
            x.undo();
        }
        Check.due("19: they stay, whatever is undone", x.knock(), 101);
        Check.due("19: none can be undone", x.house(9), 0);
    }

    /** All is full: what would be one more is refused. */
    private static void everythingFull() {
        Bundlesale x = Houses.full();
        int[] want = {4, 16, 16, 6, 16, 60, 8, 8, 0, 40, 0, 0};
        for (int what = 0; what <= 11; what++) {
            Check.due("full: house(" + what + ")", x.house(what), want[what]);
        }
        Check.refused("full: a BIDDER", x, Check.STATE, () -> x.bidder(0));
        Check.refused("full: a BID", x, Check.STATE, () -> x.bid(3, 1, 1));
        Check.refused("full: a sign", x, Check.STATE, () -> x.say(-1, -1, -1, -1, -1, 12));
        Check.refused("full: a BUYER", x, Check.STATE, () -> x.offer(true, 1));
        Check.refused("full: a SELLER", x, Check.STATE, () -> x.offer(false, 1));
        Check.changingNothing("full: a PIECE", x, -100, () -> x.enter());
        Check.due("full: a call takes the place of the oldest", x.freeze(false), false);
        Check.due("full: 40 still", x.house(9), 40);
    }

    public static void main(String[] args) {
        promise1();
        promise2();
        formsOfBidders();
        promise3();
        promise4();
        bidsFullOrFrozen();
        promise5();
        promise6();
        promise7();
        promise8();
        promise9();
        promise10();
        promise11();
        sixtySigns();
        promise12();
        faultsOfEnter();
        promise13();
        promise14();
        promise15();
        promise16();
        soldForNothing();
        promise17();
        promise18();
        firstOfManyCalls();
        undoInFullHouse();
        undoOfABidder();
        undoOfTheLast();
        promise19();
        everythingFull();
        Check.end("DoneEdgesTest");
    }
}
