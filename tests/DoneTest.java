/** Promises 1 to 19: what is done. */
public final class DoneTest {
    private static void promise1() {
        Bundlesale x = new Bundlesale();
        for (int good = 0; good < 6; good++) {
            Check.due("1: owner", x.owner(good), -1);
            Check.due("1: team", x.team(good), 1 << good);
        }
        int[] want = {0, 0, 0, 6, 16, 0, 0, 0, 0, 0, 0, 0};
        for (int what = 0; what <= 11; what++) {
            Check.due("1: house(" + what + ")", x.house(what), want[what]);
        }
        Check.due("1: typed", x.typed(), "");
        Check.due("1: list", x.list(), "");
        Check.throwing("1: no bidder", Check.INDEX, () -> x.budget(0, 1));
        Check.due("1: prices", x.price(0, 1), 0);
        Check.due("1: not frozen", x.freeze(true), false);
    }

    private static void promise2() {
        Bundlesale x = new Bundlesale();
        Check.throwing("2: form -1", Check.ARGUMENT, () -> x.bidder(-1));
        Check.throwing("2: form 2", Check.ARGUMENT, () -> x.bidder(2));
        for (int k = 0; k < 4; k++) {
            Check.due("2: bidder", x.bidder(k & 1), k);
        }
        Check.throwing("2: a fifth one", Check.STATE, () -> x.bidder(0));
        Check.throwing("2: the form ahead of the number", Check.ARGUMENT, () -> x.bidder(9));
        Check.due("2: bidders", x.house(0), 4);
        x.bid(0, 1, 5);
        x.bid(0, 2, 6);
        x.bid(1, 4, 5);
        x.bid(1, 8, 6);
        Check.due("2: one of FORM 0, all of FORM 1", x.sale(), "1 2 3");
        Check.due("2: no budget at first", x.budget(3, 5), -1);
    }

    private static void promise3() {
        Bundlesale x = Houses.with(0, 1);
        Check.due("3: none before", x.budget(1, 0), -1);
        Check.due("3: 0 before", x.budget(1, 999), 0);
        Check.due("3: 999 before", x.budget(1, -1), 999);
        Check.throwing("3: bidder 2", Check.INDEX, () -> x.budget(2, 5));
        Check.throwing("3: bidder -1", Check.INDEX, () -> x.budget(-1, 5));
        Check.throwing("3: coins -2", Check.ARGUMENT, () -> x.budget(0, -2));
        Check.throwing("3: coins 1000", Check.ARGUMENT, () -> x.budget(0, 1000));
        Check.throwing("3: the bidder first", Check.INDEX, () -> x.budget(2, 1000));
        x.bid(1, 1, 30);
        x.bid(1, 2, 30);
        x.budget(1, 40);
        Check.due("3: at most the budget", x.bound(false), 40);
    }

    private static void promise4() {
        Bundlesale x = Houses.with(0, 1);
        Check.due("4: first", x.bid(0, 1, 1), 0);
        Check.due("4: second", x.bid(1, 63, 99), 1);
        Check.due("4: the same bundle of another", x.bid(1, 1, 9), 2);
        Check.due("4: twice", x.bid(0, 1, 2), -9);
        Check.due("4: VALUE as it was", x.ofBid(0, 2), 1);
        Check.throwing("4: bidder", Check.INDEX, () -> x.bid(2, 0, 0));
        Check.throwing("4: bidder -1", Check.INDEX, () -> x.bid(-1, 1, 1));
        Check.throwing("4: bundle 0", Check.ARGUMENT, () -> x.bid(0, 0, 1));
        Check.throwing("4: bundle 64", Check.ARGUMENT, () -> x.bid(0, 64, 1));
        Check.throwing("4: value 0", Check.ARGUMENT, () -> x.bid(0, 2, 0));
        Check.throwing("4: value 100", Check.ARGUMENT, () -> x.bid(0, 2, 100));
        x.freeze(true);
        Check.throwing("4: frozen", Check.STATE, () -> x.bid(0, 2, 5));
        Check.throwing("4: frozen ahead of -9", Check.STATE, () -> x.bid(0, 1, 5));
        Check.throwing("4: arguments ahead of frozen", Check.ARGUMENT, () -> x.bid(0, 2, 100));
        x.freeze(false);
        for (int k = 3; k < 16; k++) {
            Check.due("4: many", x.bid(0, k, 5), k);
        }
        Check.throwing("4: a 17th", Check.STATE, () -> x.bid(0, 63, 5));
        Check.throwing("4: a 17th ahead of -9", Check.STATE, () -> x.bid(0, 1, 5));
        Check.due("4: bids", x.house(1), 16);
    }

    private static void promise5() {
        Bundlesale x = Houses.with(0);
        x.bid(0, 1, 5);
        Check.due("5: before", x.change(0, 99), 5);
        Check.due("5: before that", x.change(0, 1), 99);
        Check.due("5: then", x.ofBid(0, 2), 1);
        Check.throwing("5: bid 1", Check.INDEX, () -> x.change(1, 5));
        Check.throwing("5: bid -1", Check.INDEX, () -> x.change(-1, 500));
        Check.throwing("5: value 0", Check.ARGUMENT, () -> x.change(0, 0));
        Check.throwing("5: value 100", Check.ARGUMENT, () -> x.change(0, 100));
        x.freeze(true);
        Check.throwing("5: frozen", Check.STATE, () -> x.change(0, 7));
        Check.throwing("5: value ahead of frozen", Check.ARGUMENT, () -> x.change(0, 0));
        Check.throwing("5: bid ahead of frozen", Check.INDEX, () -> x.change(1, 7));
        Check.due("5: nothing changed", x.ofBid(0, 2), 1);
    }

    private static void promise6() {
        Bundlesale x = Houses.with(0, 1);
        x.bid(0, 1, 5);
        x.bid(1, 2, 6);
        x.bid(0, 4, 7);
        Check.throwing("6: bid 3", Check.INDEX, () -> x.withdraw(3));
        Check.throwing("6: bid -1", Check.INDEX, () -> x.withdraw(-1));
        Check.due("6: left", x.withdraw(1), 2);
        Check.due("6: those behind move up", x.list(), "0:0=5;0:2=7");
        x.freeze(true);
        Check.throwing("6: frozen", Check.STATE, () -> x.withdraw(0));
        Check.throwing("6: bid ahead of frozen", Check.INDEX, () -> x.withdraw(2));
        x.freeze(false);
        Check.due("6: one left", x.withdraw(0), 1);
        Check.due("6: none left", x.withdraw(0), 0);
        Check.throwing("6: none", Check.INDEX, () -> x.withdraw(0));
    }

    private static void promise7() {
        Bundlesale x = Houses.with(0);
        Check.due("7: out", x.out(0, true), 5);
        Check.due("7: out again", x.out(0, true), 5);
        Check.due("7: another", x.out(5, true), 4);
        Check.due("7: owner", x.owner(5), -9);
        Check.due("7: live again", x.out(0, false), 5);
        Check.throwing("7: good 6", Check.INDEX, () -> x.out(6, true));
        Check.throwing("7: good -1", Check.INDEX, () -> x.out(-1, true));
        x.bid(0, 2, 5);
        x.sell(0);
        Check.due("7: sold", x.out(1, true), -9);
        Check.due("7: sold, live", x.out(1, false), -9);
        Check.due("7: still sold", x.owner(1), 0);
    }

    private static void promise8() {
        Bundlesale x = Houses.with(0);
        Check.due("8: two", x.join(0, 1, true), 3);
        Check.due("8: a chain", x.join(5, 1, true), 35);
        Check.due("8: far end", x.team(0), 35);
        Check.due("8: two more", x.join(2, 3, true), 12);
        Check.due("8: both", x.join(3, 0, true), 47);
        Check.due("8: not these two, others hold", x.join(0, 1, false), 13);
        Check.due("8: the rest", x.team(1), 34);
        Check.due("8: never joined", x.join(4, 0, false), 16);
        Check.throwing("8: same", Check.ARGUMENT, () -> x.join(2, 2, true));
        Check.throwing("8: good 6", Check.INDEX, () -> x.join(6, 6, true));
        Check.throwing("8: other -1", Check.INDEX, () -> x.join(0, -1, true));
        Check.throwing("8: good -1", Check.INDEX, () -> x.join(-1, 0, false));
    }

    private static void promise9() {
        Bundlesale x = Houses.with(0);
        Check.due("9: 16 at first", x.limit(0), 16);
        Check.due("9: 0", x.limit(16), 0);
        Check.throwing("9: -1", Check.ARGUMENT, () -> x.limit(-1));
        Check.throwing("9: 17", Check.ARGUMENT, () -> x.limit(17));
        x.bid(0, 1, 5);
        x.bid(0, 2, 5);
        x.limit(2);
        Check.due("9: two are not more than 2", x.count(), 2);
        x.limit(1);
        Check.due("9: open", x.count(), -9);
        x.out(0, true);
        Check.due("9: only those that can win count", x.count(), 1);
        x.limit(0);
        x.out(1, true);
        Check.due("9: none is not more than 0", x.count(), 1);
    }

    private static void promise10() {
        Bundlesale x = Houses.with(0);
        Check.due("10: 0 at first", x.price(3, 99), 0);
        Check.due("10: 99", x.price(3, 0), 99);
        Check.throwing("10: good 6", Check.INDEX, () -> x.price(6, 100));
        Check.throwing("10: good -1", Check.INDEX, () -> x.price(-1, 1));
        Check.throwing("10: -1", Check.ARGUMENT, () -> x.price(0, -1));
        Check.throwing("10: 100", Check.ARGUMENT, () -> x.price(0, 100));
        x.bid(0, 1, 5);
        x.price(0, 5);
        Check.due("10: not demanded at its value", x.demand(0), "");
        x.price(0, 4);
        Check.due("10: demanded below", x.demand(0), "0");
    }

    private static void promise11() {
        Bundlesale x = new Bundlesale();
        Check.due("11: digits", x.say(0, 1, 2, 3, 4, 5), 6);
        Check.due("11: signs", x.say(9, 10, 11, 12, -1, -1), 10);
        Check.due("11: text", x.typed(), "0123459:=;");
        Check.due("11: last goes", x.say(13, -1, -1, 13, -1, -1), 8);
        Check.due("11: text then", x.typed(), "0123459:");
        Check.due("11: all go, one comes", x.say(1, 14, 13, 2, -1, -1), 1);
        Check.due("11: text last", x.typed(), "2");
        Check.throwing("11: -2", Check.ARGUMENT, () -> x.say(1, 1, 1, 1, 1, -2));
        Check.throwing("11: 15", Check.ARGUMENT, () -> x.say(15, 1, 1, 1, 1, 1));
        Check.due("11: nothing came", x.typed(), "2");
        x.say(14, -1, -1, -1, -1, -1);
        for (int k = 1; k <= 9; k++) {
            x.say(7, 7, 7, 7, 7, 7);
        }
        Check.due("11: 59", x.say(7, 7, 7, 7, 7, -1), 59);
        Check.throwing("11: 61 at some moment", Check.STATE, () -> x.say(1, 1, 13, 13, 13, 13));
        Check.throwing("11: 61, all going behind", Check.STATE, () -> x.say(1, 1, 14, -1, -1, -1));
        Check.throwing("11: the code first", Check.ARGUMENT, () -> x.say(1, 1, 1, 1, 1, 15));
        Check.due("11: still 59", x.house(5), 59);
        Check.due("11: 60", x.say(1, 13, 1, 13, 1, -1), 60);
        Check.throwing("11: 61", Check.STATE, () -> x.say(1, -1, -1, -1, -1, -1));
        Check.due("11: going is let", x.say(13, 1, 13, 1, -1, -1), 60);
    }

    private static void promise12() {
        Bundlesale x = Houses.with(0, 1);
        Check.due("12: empty", x.enter(), 0);
        Houses.type(x, "0:0=7;;1:012345=99;");
        Check.due("12: two", x.enter(), 2);
        Check.due("12: list", x.list(), "0:0=7;1:012345=99");
        Check.due("12: TYPED stays", x.typed(), "0:0=7;;1:012345=99;");
        Check.due("12: again", x.enter(), -100);
        Houses.type(x, "0:1=05;0:0=7");
        Check.due("12: the second one is there", x.enter(), -101);
        Check.due("12: nothing comes", x.house(1), 2);
        Houses.type(x, "0:1=05");
        Check.due("12: 05 is 5", x.enter(), 1);
        Check.due("12: VALUE", x.ofBid(2, 2), 5);
        x.freeze(true);
        Check.throwing("12: frozen", Check.STATE, () -> x.enter());
        Houses.type(x, "");
        Check.throwing("12: frozen, though empty", Check.STATE, () -> x.enter());
    }

    private static void promise13() {
        Bundlesale x = Houses.with(0, 1);
        Check.due("13: 0 before", x.worths(0, 99, 50, 0), 0);
        Check.due("13: sum before", x.worths(0, 5, 5, 5), 149);
        Check.due("13: another one", x.worths(1, 0, 0, 0), 0);
        Check.throwing("13: bidder 2", Check.INDEX, () -> x.worths(2, 1, 2, 3));
        Check.throwing("13: bidder -1", Check.INDEX, () -> x.worths(-1, 1, 1, 1));
        Check.throwing("13: 100", Check.ARGUMENT, () -> x.worths(0, 100, 0, 0));
        Check.throwing("13: -1", Check.ARGUMENT, () -> x.worths(0, 1, 0, -1));
        Check.throwing("13: rising", Check.ARGUMENT, () -> x.worths(0, 1, 2, 0));
        Check.throwing("13: rising behind", Check.ARGUMENT, () -> x.worths(0, 5, 1, 2));
        Check.due("13: nothing changed", x.worths(0, 0, 0, 0), 15);
    }

    private static void promise14() {
        Bundlesale x = new Bundlesale();
        for (int k = 1; k <= 8; k++) {
            Check.due("14: buyer", x.offer(true, 1), k);
        }
        Check.throwing("14: a 9th buyer", Check.STATE, () -> x.offer(true, 5));
        Check.due("14: seller", x.offer(false, 999), 1);
        Check.throwing("14: 0", Check.ARGUMENT, () -> x.offer(false, 0));
        Check.throwing("14: 1000", Check.ARGUMENT, () -> x.offer(true, 1000));
        for (int k = 2; k <= 8; k++) {
            x.offer(false, 5);
        }
        Check.throwing("14: a 9th seller", Check.STATE, () -> x.offer(false, 5));
        Check.due("14: buyers", x.house(6), 8);
        Check.due("14: sellers", x.house(7), 8);
    }

    private static void promise15() {
        Bundlesale x = Houses.with(0);
        Check.due("15: not at first", x.freeze(false), false);
        Check.due("15: not yet", x.freeze(true), false);
        Check.due("15: frozen", x.freeze(true), true);
        Check.due("15: house", x.house(10), 1);
        Check.throwing("15: no bid comes", Check.STATE, () -> x.bid(0, 1, 1));
        Check.due("15: thawed", x.freeze(false), true);
        Check.due("15: a bid comes", x.bid(0, 1, 1), 0);
    }

    private static void promise16() {
        Bundlesale x = Houses.with(0, 1, 0);
        Check.due("16: no bid", x.sell(0), -9);
        Check.throwing("16: rule -1", Check.ARGUMENT, () -> x.sell(-1));
        Check.throwing("16: rule 3", Check.ARGUMENT, () -> x.sell(3));
        x.bid(0, 3, 20);
        x.bid(1, 4, 10);
        x.bid(2, 7, 25);
        x.bid(1, 8, 6);
        x.limit(3);
        Check.due("16: open", x.sell(1), -9);
        x.limit(16);
        x.freeze(true);
        Check.due("16: by rule 1, though frozen", x.sell(1), 20);
        Check.due("16: owner 0", x.owner(1), 0);
        Check.due("16: owner 1", x.owner(2), 1);
        Check.due("16: owner 1 too", x.owner(3), 1);
        Check.due("16: not sold", x.owner(4), -1);
        Check.due("16: those go", x.list(), "2:012=25");
        Check.due("16: paid by 0", x.gets(0, 2), 15);
        Check.due("16: paid by 1", x.gets(1, 2), 5);
        Check.due("16: no bid that can win", x.sell(0), -9);
        x.undo();
        Check.due("16: by rule 0", x.sell(0), 36);
        x.undo();
        Check.due("16: by rule 2", x.sell(2), 25);
        Check.due("16: the nearest of 0", x.gets(0, 2), 17);
        Check.due("16: the nearest of 1", x.gets(1, 2), 8);
        x.freeze(false);
        x.bid(1, 16, 4);
        Check.due("16: once more", x.sell(0), 4);
        Check.due("16: paid together", x.gets(1, 2), 12);
        Check.due("16: in all", x.house(8), 29);
        Bundlesale y = Houses.with(0);
        y.join(0, 5, true);
        y.bid(0, 1, 5);
        y.sell(0);
        Check.due("16: the whole is sold", y.owner(5), 0);
    }

    private static void promise17() {
        Bundlesale x = Houses.with(0, 1);
        x.bid(1, 3, 9);
        x.sell(0);
        Check.due("17: live", x.giveUp(2), -9);
        x.out(2, true);
        Check.due("17: out", x.giveUp(2), -9);
        Check.due("17: sold", x.giveUp(0), 1);
        Check.due("17: live again", x.owner(0), -1);
        Check.due("17: once", x.giveUp(0), -9);
        Check.due("17: the other stays", x.owner(1), 1);
        Check.due("17: paid stays paid", x.gets(1, 2), 9);
        Check.throwing("17: good 6", Check.INDEX, () -> x.giveUp(6));
        Check.throwing("17: good -1", Check.INDEX, () -> x.giveUp(-1));
    }

    private static void promise18() {
        Bundlesale x = new Bundlesale();
        Check.throwing("18: none", Check.STATE, () -> x.undo());
        x.bidder(0);
        x.bid(0, 1, 5);
        x.bid(0, 1, 6);
        Check.throwing("18: a throw is none", Check.ARGUMENT, () -> x.bid(0, 1, 0));
        x.enter();
        x.knock();
        x.giveUp(0);
        x.sell(0);
        x.budget(0, 7);
        Check.due("18: calls", x.house(9), 5);
        Check.due("18: the budget", x.undo(), 4);
        Check.due("18: none again", x.budget(0, 3), -1);
        x.undo();
        Check.due("18: the sale", x.undo(), 3);
        Check.due("18: not sold", x.owner(0), -1);
        Check.due("18: not paid", x.house(8), 0);
        Check.due("18: the bid is there", x.list(), "0:0=5");
        x.undo();
        Check.due("18: the bid", x.undo(), 1);
        Check.due("18: the bidder", x.undo(), 0);
        Check.due("18: no bidder", x.house(0), 0);
        Check.due("18: refused stay", x.house(11), 1);
        Check.throwing("18: none left", Check.STATE, () -> x.undo());
        undoOfEach();
        undoOfMany();
    }

    private static void undoOfEach() {
        Bundlesale x = Houses.with(0);
        x.bid(0, 1, 5);
        x.sell(0);
        x.bid(0, 2, 6);
        long before = x.digest();
        Check.Call[] calls = {() -> x.bidder(1), () -> x.budget(0, 3), () -> x.bid(0, 8, 3), () -> x.change(0, 9),
            () -> x.withdraw(0), () -> x.out(5, true), () -> x.join(1, 2, true), () -> x.limit(0), () -> x.price(0, 9),
            () -> x.say(0, 10, -1, 0, 11, 7), () -> x.worths(0, 5, 4, 3), () -> x.offer(true, 9),
            () -> x.offer(false, 9), () -> x.freeze(true), () -> x.sell(0), () -> x.giveUp(0)};
        for (int k = 0; k < calls.length; k++) {
            calls[k].answer();
            Check.due("18: can be undone, " + k, x.undo(), 4);
            Check.due("18: as it was, " + k, x.digest(), before);
        }
        x.say(0, 10, 2, 11, 7, -1);
        x.enter();
        x.undo();
        Check.due("18: what was entered", x.list(), "0:1=6");
    }

    private static void undoOfMany() {
        Bundlesale x = new Bundlesale();
        for (int k = 1; k <= 45; k++) {
            x.price(0, k);
        }
        Check.due("18: 40 of 45", x.house(9), 40);
        for (int k = 39; k >= 0; k--) {
            Check.due("18: one after the other", x.undo(), k);
        }
        Check.due("18: the first five stay", x.price(0, 1), 5);
    }

    private static void promise19() {
        Bundlesale x = new Bundlesale();
        Check.due("19: one", x.knock(), 1);
        Check.due("19: two", x.knock(), 2);
        x.bidder(0);
        x.undo();
        Check.due("19: three", x.knock(), 3);
        Check.due("19: house", x.house(11), 3);
        Check.due("19: can't be undone", x.house(9), 0);
    }

    public static void main(String[] args) {
        promise1();
        promise2();
        promise3();
        promise4();
        promise5();
        promise6();
        promise7();
        promise8();
        promise9();
        promise10();
        promise11();
        promise12();
        promise13();
        promise14();
        promise15();
        promise16();
        promise17();
        promise18();
        promise19();
        Check.end("DoneTest");
    }
}
