/** A house that sells several goods at once. */
public final class Bundlesale {

    private static final int NONE = -1;
    private static final int CANNOT = -9;
    private static final int NO_GAIN_TOLD = -9999;

    private static final int GOODS = 6;
    private static final int BIDDERS = 4;
    private static final int GROUPS = 16;
    private static final int BIDS = 16;
    private static final int SIGNS = 60;
    private static final int TRADERS = 8;
    private static final int WISHES = 3;
    private static final int STEPS_BACK = 40;

    /** What a GOOD's owner is, if no BIDDER is. */
    private static final int LIVE = -1;
    private static final int OUT = -9;

    private static final int COLON = 10;
    private static final int EQUALS = 11;
    private static final int SEMICOLON = 12;
    private static final int ERASE = 13;
    private static final int CLEAR = 14;
    private static final String SIGN_TEXT = "0123456789:=;";
    /** More than the text of 16 BIDS can have. */
    private static final int LIST_SIGNS = 256;

    /** More than any BIDDER can bid, so that it stands for no BUDGET. */
    private static final int NO_BUDGET = 9999;
    /** Far above what a CLOCK or a PROXY of the least step can need. */
    private static final int ROUNDS = 10000;
    /** One to six GOODS share these without a rest. */
    private static final int SHARES = 60;
    /** Above every sum of payments and every sum of their squares. */
    private static final int FAR = 1000000000;

    /** How much of an Outcome is known. */
    private static final int STALE = 0;
    private static final int WHOLES = 1;
    private static final int TOLD = 2;
    private static final int WORTHS = 3;
    private static final int PAYMENTS = 4;

    private static final int[] NO_PRICES = {0, 0, 0, 0, 0, 0};
    private static final int[] FACTORIAL = {1, 1, 2, 6, 24};

    private final Book book = new Book();
    private final Book[] past = new Book[STEPS_BACK];
    private int pastAt = 0;
    private int pastCount = 0;
    private int refused = 0;

    private final Search search = new Search(book);
    private final Outcome outcome = new Outcome(book, search);
    private final Matcher matcher = new Matcher(book, search);
    private final Clock clock = new Clock(book, search);
    private final Proxy proxy = new Proxy(book, search);
    private final HandOut handOut = new HandOut(book);
    private final Trade trade = new Trade(book);
    private final Typing typing = new Typing(book);
    private final int[] lieValue = new int[BIDS];

    public Bundlesale() {
        for (int k = 0; k < STEPS_BACK; k++) {
            past[k] = new Book();
        }
    }

    // ---- what is done

    public int bidder(int form) throws IllegalArgumentException, IllegalStateException {
        if (form != 0 && form != 1) {
            throw new IllegalArgumentException("form is not 0 or 1");
        }
        if (book.bidders >= BIDDERS) {
            throw new IllegalStateException("there are 4 bidders");
        }
        remember();
        int number = book.bidders;
        book.form[number] = form;
        book.budget[number] = NONE;
        book.bidders = number + 1;
        return number;
    }

    public int budget(int bidder, int coins) throws IndexOutOfBoundsException, IllegalArgumentException {
        needBidder(bidder);
        needWithin(coins, NONE, 999);
        remember();
        int before = book.budget[bidder];
        book.budget[bidder] = coins;
        return before;
    }

    public int bid(int bidder, int bundle, int value)
            throws IndexOutOfBoundsException, IllegalArgumentException, IllegalStateException {
        needBidder(bidder);
        needWithin(bundle, 1, 63);
        needWithin(value, 1, 99);
        if (book.bids >= BIDS) {
            throw new IllegalStateException("there are 16 bids");
        }
        needThawed();
        if (book.hasBid(bidder, bundle)) {
            return CANNOT;
        }
        remember();
        book.addBid(bidder, bundle, value);
        return book.bids - 1;
    }

    public int change(int bid, int value)
            throws IndexOutOfBoundsException, IllegalArgumentException, IllegalStateException {
        needBid(bid);
        needWithin(value, 1, 99);
        needThawed();
        remember();
        int before = book.value[bid];
        book.value[bid] = value;
        return before;
    }

    public int withdraw(int bid) throws IndexOutOfBoundsException, IllegalStateException {
        needBid(bid);
        needThawed();
        remember();
        book.dropBids(1 << bid);
        return book.bids;
    }

    public int out(int good, boolean isOut) throws IndexOutOfBoundsException {
        needGood(good);
        if (book.owner[good] >= 0) {
            return CANNOT;
        }
        remember();
        book.owner[good] = isOut ? OUT : LIVE;
        return Integer.bitCount(book.liveGoods());
    }

    public int join(int good, int other, boolean isJoined)
            throws IndexOutOfBoundsException, IllegalArgumentException {
        needGood(good);
        needGood(other);
        if (good == other) {
            throw new IllegalArgumentException("a good is not joined to itself");
        }
        remember();
        if (isJoined) {
            book.links[good] |= 1 << other;
            book.links[other] |= 1 << good;
        } else {
            book.links[good] &= ~(1 << other);
            book.links[other] &= ~(1 << good);
        }
        return book.teamOf(good);
    }

    public int limit(int many) throws IllegalArgumentException {
        needWithin(many, 0, BIDS);
        remember();
        int before = book.limit;
        book.limit = many;
        return before;
    }

    public int price(int good, int coins) throws IndexOutOfBoundsException, IllegalArgumentException {
        needGood(good);
        needWithin(coins, 0, 99);
        remember();
        int before = book.price[good];
        book.price[good] = coins;
        return before;
    }

    public int say(int a, int b, int c, int d, int e, int f)
            throws IllegalArgumentException, IllegalStateException {
        needCode(a);
        needCode(b);
        needCode(c);
        needCode(d);
        needCode(e);
        needCode(f);
        typing.setKeys(a, b, c, d, e, f);
        if (!typing.hasRoomForKeys()) {
            throw new IllegalStateException("more than 60 signs");
        }
        remember();
        typing.pressKeys();
        return book.signs;
    }

    public int enter() throws IllegalStateException {
        needThawed();
        int wrong = typing.readTyped();
        if (wrong != NONE) {
            return -100 - wrong;
        }
        remember();
        typing.addPieces();
        return typing.pieces;
    }

    public int worths(int bidder, int first, int second, int third)
            throws IndexOutOfBoundsException, IllegalArgumentException {
        needBidder(bidder);
        needWithin(first, 0, 99);
        needWithin(second, 0, first);
        needWithin(third, 0, second);
        remember();
        int at = bidder * WISHES;
        int before = book.wish[at] + book.wish[at + 1] + book.wish[at + 2];
        book.wish[at] = first;
        book.wish[at + 1] = second;
        book.wish[at + 2] = third;
        return before;
    }

    public int offer(boolean isBuyer, int coins) throws IllegalArgumentException, IllegalStateException {
        needWithin(coins, 1, 999);
        if ((isBuyer ? book.buyers : book.sellers) >= TRADERS) {
            throw new IllegalStateException("there are 8 of these");
        }
        remember();
        if (isBuyer) {
            book.buyer[book.buyers] = coins;
            book.buyers++;
            return book.buyers;
        }
        book.seller[book.sellers] = coins;
        book.sellers++;
        return book.sellers;
    }

    public boolean freeze(boolean isFrozen) {
        remember();
        boolean before = book.isFrozen;
        book.isFrozen = isFrozen;
        return before;
    }

    public int sell(int rule) throws IllegalArgumentException {
        needWithin(rule, 0, 2);
        outcome.know(PAYMENTS);
        if (outcome.isOpen || outcome.told == 0) {
            return CANNOT;
        }
        remember();
        int together = 0;
        for (int bidder = 0; bidder < book.bidders; bidder++) {
            int payment = outcome.payment(bidder, rule);
            book.paid[bidder] += payment;
            together += payment;
            book.handOver(search.goodsOf(outcome.told & search.own[bidder]), bidder);
        }
        book.dropBids(outcome.told);
        return together;
    }

    public int giveUp(int good) throws IndexOutOfBoundsException {
        needGood(good);
        int before = book.owner[good];
        if (before < 0) {
            return CANNOT;
        }
        remember();
        book.owner[good] = LIVE;
        return before;
    }

    public int undo() throws IllegalStateException {
        if (pastCount == 0) {
            throw new IllegalStateException("no call can be undone");
        }
        pastAt = (pastAt + STEPS_BACK - 1) % STEPS_BACK;
        pastCount--;
        book.copyFrom(past[pastAt]);
        outcome.known = STALE;
        return pastCount;
    }

    public int knock() {
        refused++;
        return refused;
    }

    // ---- what is asked of goods and bids

    public int ofBid(int bid, int what) throws IndexOutOfBoundsException, IllegalArgumentException {
        needBid(bid);
        needWithin(what, 0, 5);
        switch (what) {
            case 0:
                return book.who[bid];
            case 1:
                return book.bundle[bid];
            case 2:
                return book.value[bid];
            case 3:
                outcome.know(WHOLES);
                return search.whole[bid];
            case 4:
                outcome.know(WHOLES);
                return search.canWin >> bid & 1;
            default:
                outcome.know(TOLD);
                return outcome.told >> bid & 1;
        }
    }

    public String list() {
        StringBuilder text = new StringBuilder();
        for (int bid = 0; bid < book.bids; bid++) {
            if (bid > 0) {
                text.append(';');
            }
            text.append(book.who[bid]).append(':');
            for (int good = 0; good < GOODS; good++) {
                if ((book.bundle[bid] >> good & 1) == 1) {
                    text.append(good);
                }
            }
            text.append('=').append(book.value[bid]);
        }
        return text.toString();
    }

    public String typed() {
        StringBuilder text = new StringBuilder();
        for (int k = 0; k < book.signs; k++) {
            text.append(SIGN_TEXT.charAt(book.sign[k]));
        }
        return text.toString();
    }

    public int fault() {
        return typing.readTyped();
    }

    public int team(int good) throws IndexOutOfBoundsException {
        needGood(good);
        return book.teamOf(good);
    }

    public int owner(int good) throws IndexOutOfBoundsException {
        needGood(good);
        return book.owner[good];
    }

    public int forms() {
        int forms = 7;
        for (int bid = 0; bid < book.bids; bid++) {
            int bundle = book.bundle[bid];
            if (hasGap(bundle)) {
                forms &= ~1;
            }
            if (crossesOneBehind(bid)) {
                forms &= ~2;
            }
            if (Integer.bitCount(bundle) != 1) {
                forms &= ~4;
            }
        }
        return forms;
    }

    // ---- what is asked of sales

    public String sale() {
        outcome.know(TOLD);
        return rowOfSet(outcome.told);
    }

    public int bound(boolean isHigh) {
        outcome.know(TOLD);
        return isHigh ? outcome.high : outcome.low;
    }

    public int count() {
        outcome.know(TOLD);
        return outcome.isOpen ? CANNOT : outcome.ties;
    }

    public int worth(int group) throws IllegalArgumentException {
        needWithin(group, 0, book.allBidders());
        outcome.know(WORTHS);
        return outcome.isOpen ? CANNOT : outcome.worthOfGroup[group];
    }

    public int gets(int bidder, int what) throws IndexOutOfBoundsException, IllegalArgumentException {
        needBidder(bidder);
        needWithin(what, 0, 2);
        outcome.know(TOLD);
        if (what == 0) {
            return search.goodsOf(outcome.told & search.own[bidder]);
        }
        return what == 1 ? outcome.has[bidder] : book.paid[bidder];
    }

    public int pays(int bidder, int rule) throws IndexOutOfBoundsException, IllegalArgumentException {
        needBidder(bidder);
        needWithin(rule, 0, 2);
        outcome.know(rule == 2 ? PAYMENTS : WORTHS);
        return outcome.isOpen ? CANNOT : outcome.payment(bidder, rule);
    }

    public String cuts() {
        outcome.know(PAYMENTS);
        if (outcome.isOpen) {
            return "-";
        }
        StringBuilder row = new StringBuilder();
        for (int k = 0; k < outcome.cuts; k++) {
            put(row, outcome.cut[k]);
        }
        return row.toString();
    }

    public int gain(int bid, int value, int rule) throws IndexOutOfBoundsException, IllegalArgumentException {
        needBid(bid);
        needWithin(value, 1, 99);
        needWithin(rule, 0, 1);
        outcome.know(WORTHS);
        return outcome.isOpen ? NO_GAIN_TOLD : leftByLie(bid, value, rule) - leftAsIs(bid, rule);
    }

    public int lie(int bid, int rule) throws IndexOutOfBoundsException, IllegalArgumentException {
        needBid(bid);
        needWithin(rule, 0, 1);
        outcome.know(WORTHS);
        if (outcome.isOpen) {
            return NONE;
        }
        int most = leftAsIs(bid, rule);
        int found = NONE;
        for (int value = 1; value <= 99; value++) {
            int left = leftByLie(bid, value, rule);
            if (left > most) {
                most = left;
                found = value;
            }
        }
        return found;
    }

    // ---- what is asked of prices

    public String demand(int bidder) throws IndexOutOfBoundsException {
        needBidder(bidder);
        outcome.know(WHOLES);
        search.lookFor(search.ownThatCanWin(bidder), book.value, book.price, GOODS);
        return rowOfSet(search.bestSet);
    }

    public boolean hold() {
        outcome.know(TOLD);
        if (outcome.isOpen) {
            return false;
        }
        for (int bidder = 0; bidder < book.bidders; bidder++) {
            int goods = search.goodsOf(outcome.told & search.own[bidder]);
            search.lookFor(search.ownThatCanWin(bidder), book.value, book.price, GOODS);
            if (outcome.has[bidder] - sumOver(goods, book.price) != search.bestWorth) {
                return false;
            }
        }
        return sumOver(book.liveGoods() & ~search.goodsOf(outcome.told), book.price) == 0;
    }

    public String clock(int step, boolean isActive) throws IllegalArgumentException {
        needWithin(step, 5, 50);
        outcome.know(WHOLES);
        clock.run(step, isActive);
        StringBuilder row = new StringBuilder();
        put(row, clock.rounds);
        for (int good = 0; good < GOODS; good++) {
            put(row, clock.price[good]);
        }
        for (int bidder = 0; bidder < book.bidders; bidder++) {
            put(row, clock.wanted[bidder]);
        }
        return row.toString();
    }

    public String proxy(int step) throws IllegalArgumentException {
        needWithin(step, 5, 50);
        outcome.know(WHOLES);
        proxy.run(step);
        StringBuilder row = new StringBuilder();
        put(row, proxy.rounds);
        for (int bidder = 0; bidder < book.bidders; bidder++) {
            put(row, search.hasOf(bidder, proxy.winners, proxy.offered));
        }
        return row.toString();
    }

    // ---- what is asked of one good, of alike ones, of trades

    public String single(int good, int kind, int least) throws IndexOutOfBoundsException, IllegalArgumentException {
        needGood(good);
        needWithin(kind, 0, 2);
        needWithin(least, 0, 99);
        outcome.know(WHOLES);
        int winner = NONE;
        int most = 0;
        int second = least;
        int together = 0;
        for (int bidder = 0; bidder < book.bidders; bidder++) {
            int offered = search.offerFor(bidder, good);
            if (offered == 0 || offered < least) {
                continue;
            }
            together += offered;
            if (offered > most) {
                second = Math.max(second, most);
                most = offered;
                winner = bidder;
            } else {
                second = Math.max(second, offered);
            }
        }
        if (winner == NONE) {
            return "-";
        }
        StringBuilder row = new StringBuilder();
        put(row, winner);
        put(row, kind == 0 ? most : kind == 1 ? second : together);
        return row.toString();
    }

    public String handOut(int many, int kind) throws IllegalArgumentException {
        needWithin(many, 0, BIDDERS * WISHES);
        needWithin(kind, 0, 2);
        handOut.give(many);
        StringBuilder row = new StringBuilder();
        for (int bidder = 0; bidder < book.bidders; bidder++) {
            put(row, handOut.things[bidder]);
            put(row, handOut.payment(bidder, kind));
        }
        return row.toString();
    }

    public String trades() {
        trade.meet();
        if (trade.pairs == 0) {
            return "0";
        }
        StringBuilder row = new StringBuilder();
        put(row, trade.pairs);
        row.append(' ');
        putFraction(row, trade.buyersPayTwice, 2);
        row.append(' ');
        putFraction(row, trade.sellersGetTwice, 2);
        return row.toString();
    }

    public int lost() {
        trade.meet();
        return trade.lostWorth;
    }

    // ---- what is asked of matched markets and shares

    public String matched() {
        outcome.know(WHOLES);
        matcher.readOffers();
        matcher.match(matcher.market, 0);
        StringBuilder row = new StringBuilder();
        for (int bidder = 0; bidder < book.bidders; bidder++) {
            if (matcher.given[bidder] == NONE) {
                putText(row, "-");
            } else {
                put(row, matcher.given[bidder]);
            }
        }
        return row.toString();
    }

    public int edge(int good, boolean isLeast) throws IndexOutOfBoundsException {
        needGood(good);
        outcome.know(WHOLES);
        matcher.readOffers();
        return matcher.edgeOf(good, isLeast);
    }

    public boolean stand() {
        outcome.know(WHOLES);
        matcher.readOffers();
        int together = sumOver(matcher.market, book.price);
        for (int bidder = 0; bidder < book.bidders; bidder++) {
            together += matcher.mostLeft(bidder, book.price);
        }
        return together == matcher.match(matcher.market, 0);
    }

    public String shapley(int bidder) throws IndexOutOfBoundsException {
        needBidder(bidder);
        outcome.know(WORTHS);
        if (outcome.isOpen) {
            return "-";
        }
        StringBuilder row = new StringBuilder();
        putFraction(row, outcome.sumOverOrders(bidder), FACTORIAL[book.bidders]);
        return row.toString();
    }

    public int fee(int bidder, int coins) throws IndexOutOfBoundsException, IllegalArgumentException {
        needBidder(bidder);
        needWithin(coins, 0, 9999);
        outcome.know(WORTHS);
        return outcome.isOpen ? CANNOT : outcome.share(bidder, coins);
    }

    // ---- all

    public int house(int what) throws IllegalArgumentException {
        needWithin(what, 0, 11);
        switch (what) {
            case 0:
                return book.bidders;
            case 1:
                return book.bids;
            case 2:
                outcome.know(WHOLES);
                return Integer.bitCount(search.canWin);
            case 3:
                return Integer.bitCount(book.liveGoods());
            case 4:
                return book.limit;
            case 5:
                return book.signs;
            case 6:
                return book.buyers;
            case 7:
                return book.sellers;
            case 8:
                return book.paid[0] + book.paid[1] + book.paid[2] + book.paid[3];
            case 9:
                return pastCount;
            case 10:
                return book.isFrozen ? 1 : 0;
            default:
                return refused;
        }
    }

    public boolean isSound() {
        outcome.know(PAYMENTS);
        return search.isSale(outcome.told)
            && (outcome.isOpen || isBestOfAll() && outcome.isNobodyInTheWay() && isTruthBest())
            && outcome.low <= outcome.high
            && outcome.isMoreNeverLess()
            && areEdgesInOrder()
            && outcome.areSharesWhole()
            && typing.isList(list());
    }

    public long digest() {
        long d = 6901;
        for (int what = 0; what <= 11; what++) {
            d = d * 31 + house(what);
        }
        for (int bid = 0; bid < book.bids; bid++) {
            for (int what = 0; what <= 5; what++) {
                d = d * 31 + ofBid(bid, what);
            }
        }
        d = d * 31 + list().length();
        d = d * 31 + fault();
        for (int good = 0; good < GOODS; good++) {
            d = d * 31 + team(good);
            d = d * 31 + owner(good);
            d = d * 31 + edge(good, true);
            d = d * 31 + edge(good, false);
        }
        d = d * 31 + forms();
        d = d * 31 + sale().length();
        d = d * 31 + bound(false);
        d = d * 31 + bound(true);
        d = d * 31 + count();
        for (int bidder = 0; bidder < book.bidders; bidder++) {
            for (int what = 0; what <= 2; what++) {
                d = d * 31 + gets(bidder, what);
            }
            for (int rule = 0; rule <= 2; rule++) {
                d = d * 31 + pays(bidder, rule);
            }
            d = d * 31 + demand(bidder).length();
            d = d * 31 + shapley(bidder).length();
            d = d * 31 + fee(bidder, 100);
        }
        d = d * 31 + cuts().length();
        d = d * 31 + (hold() ? 1 : 0);
        d = d * 31 + clock(20, false).length();
        d = d * 31 + clock(20, true).length();
        d = d * 31 + proxy(20).length();
        d = d * 31 + handOut(5, 2).length();
        d = d * 31 + trades().length();
        d = d * 31 + lost();
        d = d * 31 + matched().length();
        d = d * 31 + (stand() ? 1 : 0);
        return d * 31 + (isSound() ? 1 : 0);
    }

    // ---- what the calls share

    private void needBidder(int bidder) {
        if (bidder < 0 || bidder >= book.bidders) {
            throw new IndexOutOfBoundsException("no such bidder");
        }
    }

    private void needBid(int bid) {
        if (bid < 0 || bid >= book.bids) {
            throw new IndexOutOfBoundsException("no such bid");
        }
    }

    private static void needGood(int good) {
        if (good < 0 || good >= GOODS) {
            throw new IndexOutOfBoundsException("no such good");
        }
    }

    private static void needWithin(int number, int least, int most) {
        if (number < least || number > most) {
            throw new IllegalArgumentException("a number is not in its bounds");
        }
    }

    private static void needCode(int code) {
        needWithin(code, NONE, CLEAR);
    }

    private void needThawed() {
        if (book.isFrozen) {
            throw new IllegalStateException("the house is frozen");
        }
    }

    /** Stands ahead of every change, so that the change can be undone and nothing found out before outlives it. */
    private void remember() {
        past[pastAt].copyFrom(book);
        pastAt = (pastAt + 1) % STEPS_BACK;
        if (pastCount < STEPS_BACK) {
            pastCount++;
        }
        outcome.known = STALE;
    }

    private static boolean hasGap(int bundle) {
        // The lowest GOOD, added, carries past all GOODS of a bundle without a gap.
        return (bundle + (bundle & -bundle) & bundle) != 0;
    }

    private boolean crossesOneBehind(int bid) {
        for (int other = bid + 1; other < book.bids; other++) {
            int common = book.bundle[bid] & book.bundle[other];
            if (common != 0 && common != book.bundle[bid] && common != book.bundle[other]) {
                return true;
            }
        }
        return false;
    }

    /** What the BIDDER of a BID truly has, less what it pays, if a VALUE is told for the BID. */
    private int leftByLie(int bid, int value, int rule) {
        System.arraycopy(book.value, 0, lieValue, 0, BIDS);
        lieValue[bid] = value;
        search.lookFor(search.canWin, lieValue, NO_PRICES, GOODS);
        int bidder = book.who[bid];
        int hasTold = search.hasOf(bidder, search.bestSet, lieValue);
        int hasTruly = search.hasOf(bidder, search.bestSet, book.value);
        if (rule == 0) {
            return hasTruly - hasTold;
        }
        int othersAlone = outcome.worthOfGroup[book.allBidders() & ~(1 << bidder)];
        return hasTruly - (othersAlone - (search.bestWorth - hasTold));
    }

    /** What the BIDDER of a BID has, less what it pays, as all VALUES are told now. */
    private int leftAsIs(int bid, int rule) {
        int bidder = book.who[bid];
        return outcome.has[bidder] - outcome.payment(bidder, rule);
    }

    private boolean isBestOfAll() {
        Audit audit = new Audit(search, outcome.told);
        Audit.look(audit, 0, 0, 0, 0);
        return !audit.hasBetter && audit.same == outcome.ties;
    }

    private boolean isTruthBest() {
        for (int bidder = 0; bidder < book.bidders; bidder++) {
            if (book.budget[bidder] != NONE) {
                return true;
            }
        }
        for (int bid = 0; bid < book.bids; bid++) {
            int left = leftAsIs(bid, 1);
            if (leftByLie(bid, 1, 1) > left || leftByLie(bid, 50, 1) > left || leftByLie(bid, 99, 1) > left) {
                return false;
            }
        }
        return true;
    }

    private boolean areEdgesInOrder() {
        matcher.readOffers();
        for (int good = 0; good < GOODS; good++) {
            if (matcher.edgeOf(good, true) > matcher.edgeOf(good, false)) {
                return false;
            }
        }
        return true;
    }

    private static int sumOver(int goods, int[] price) {
        int sum = 0;
        for (int good = 0; good < GOODS; good++) {
            if ((goods >> good & 1) == 1) {
                sum += price[good];
            }
        }
        return sum;
    }

    private static String rowOfSet(int set) {
        StringBuilder row = new StringBuilder();
        for (int k = 0; k < BIDS; k++) {
            if ((set >> k & 1) == 1) {
                put(row, k);
            }
        }
        return row.toString();
    }

    private static void put(StringBuilder row, int number) {
        if (row.length() > 0) {
            row.append(' ');
        }
        row.append(number);
    }

    private static void putText(StringBuilder row, String text) {
        if (row.length() > 0) {
            row.append(' ');
        }
        row.append(text);
    }

    /** Puts over / under, neither below 0 and under not 0, in lowest terms. */
    private static void putFraction(StringBuilder row, int over, int under) {
        int common = commonDivisor(over, under);
        if (common == 0) {
            return;
        }
        row.append(over / common);
        if (under != common) {
            row.append('/').append(under / common);
        }
    }

    private static int commonDivisor(int a, int b) {
        int greater = a;
        int smaller = b;
        // Euclid halves at least every second time, so 64 rounds are enough for any int.
        for (int round = 0; round < 64 && smaller != 0; round++) {
            int left = greater % smaller;
            greater = smaller;
            smaller = left;
        }
        return greater;
    }

    /** All that undo() brings back. */
    private static final class Book {
        int bidders = 0;
        final int[] form = new int[BIDDERS];
        final int[] budget = new int[BIDDERS];
        final int[] paid = new int[BIDDERS];
        final int[] wish = new int[BIDDERS * WISHES];
        int bids = 0;
        final int[] who = new int[BIDS];
        final int[] bundle = new int[BIDS];
        final int[] value = new int[BIDS];
        final int[] owner = {LIVE, LIVE, LIVE, LIVE, LIVE, LIVE};
        final int[] links = new int[GOODS];
        final int[] price = new int[GOODS];
        int limit = BIDS;
        int signs = 0;
        final int[] sign = new int[SIGNS];
        int buyers = 0;
        final int[] buyer = new int[TRADERS];
        int sellers = 0;
        final int[] seller = new int[TRADERS];
        boolean isFrozen = false;

        Book() {
        }

        void copyFrom(Book other) {
            bidders = other.bidders;
            System.arraycopy(other.form, 0, form, 0, BIDDERS);
            System.arraycopy(other.budget, 0, budget, 0, BIDDERS);
            System.arraycopy(other.paid, 0, paid, 0, BIDDERS);
            System.arraycopy(other.wish, 0, wish, 0, BIDDERS * WISHES);
            bids = other.bids;
            System.arraycopy(other.who, 0, who, 0, BIDS);
            System.arraycopy(other.bundle, 0, bundle, 0, BIDS);
            System.arraycopy(other.value, 0, value, 0, BIDS);
            System.arraycopy(other.owner, 0, owner, 0, GOODS);
            System.arraycopy(other.links, 0, links, 0, GOODS);
            System.arraycopy(other.price, 0, price, 0, GOODS);
            limit = other.limit;
            signs = other.signs;
            System.arraycopy(other.sign, 0, sign, 0, SIGNS);
            buyers = other.buyers;
            System.arraycopy(other.buyer, 0, buyer, 0, TRADERS);
            sellers = other.sellers;
            System.arraycopy(other.seller, 0, seller, 0, TRADERS);
            isFrozen = other.isFrozen;
        }

        int allBidders() {
            return (1 << bidders) - 1;
        }

        int capOf(int bidder) {
            return budget[bidder] == NONE ? NO_BUDGET : budget[bidder];
        }

        int liveGoods() {
            int live = 0;
            for (int good = 0; good < GOODS; good++) {
                if (owner[good] == LIVE) {
                    live |= 1 << good;
                }
            }
            return live;
        }

        int teamOf(int good) {
            return wholeOf(1 << good);
        }

        int wholeOf(int goods) {
            int whole = goods;
            for (int round = 0; round < GOODS; round++) {
                for (int good = 0; good < GOODS; good++) {
                    if ((whole >> good & 1) == 1) {
                        whole |= links[good];
                    }
                }
            }
            return whole;
        }

        void handOver(int goods, int bidder) {
            for (int good = 0; good < GOODS; good++) {
                if ((goods >> good & 1) == 1) {
                    owner[good] = bidder;
                }
            }
        }

        boolean hasBid(int bidder, int goods) {
            for (int bid = 0; bid < bids; bid++) {
                if (who[bid] == bidder && bundle[bid] == goods) {
                    return true;
                }
            }
            return false;
        }

        void addBid(int bidder, int goods, int coins) {
            if (bids < BIDS) {
                who[bids] = bidder;
                bundle[bids] = goods;
                value[bids] = coins;
                bids++;
            }
        }

        void dropBids(int set) {
            int left = 0;
            for (int bid = 0; bid < bids; bid++) {
                if ((set >> bid & 1) == 0) {
                    who[left] = who[bid];
                    bundle[left] = bundle[bid];
                    value[left] = value[bid];
                    left++;
                }
            }
            bids = left;
        }
    }

    /** Finds, of all SALES of some BIDS, the one that is worth the most above what its goods cost. */
    private static final class Search {
        final Book book;
        final int[] whole = new int[BIDS];
        final int[] own = new int[BIDDERS];
        final int[] cap = new int[BIDDERS];
        int canWin = 0;

        private int[] value = new int[BIDS];
        private int mostGoods = GOODS;
        private final int[] cost = new int[BIDS];
        private final int[] number = new int[BIDS];
        private int numbers = 0;
        /** What the BIDS from a place on can bring at most. */
        private final int[] rest = new int[BIDS + 1];
        /** What each GOOD can bring at most with the BIDS from a place on, a BID shared out evenly over its GOODS. */
        private final int[][] perGood = new int[BIDS + 1][GOODS];

        private final int[] sum = new int[BIDDERS];
        private int goods = 0;
        private int set = 0;
        private int worthNow = 0;

        int bestWorth = 0;
        int bestSize = 0;
        int bestSet = 0;
        int ties = 0;

        Search(Book book) {
            this.book = book;
        }

        /** Takes from the book what a search needs of it beside the values. */
        void readBook() {
            int live = book.liveGoods();
            canWin = 0;
            for (int bidder = 0; bidder < BIDDERS; bidder++) {
                own[bidder] = 0;
                cap[bidder] = book.capOf(bidder);
            }
            for (int bid = 0; bid < book.bids; bid++) {
                whole[bid] = book.wholeOf(book.bundle[bid]);
                own[book.who[bid]] |= 1 << bid;
                if ((whole[bid] & ~live) == 0) {
                    canWin |= 1 << bid;
                }
            }
        }

        int ownThatCanWin(int bidder) {
            return canWin & own[bidder];
        }

        void lookFor(int bids, int[] values, int[] price, int most) {
            value = values;
            mostGoods = most;
            numbers = 0;
            for (int bid = 0; bid < book.bids; bid++) {
                if ((bids >> bid & 1) == 1) {
                    cost[bid] = sumOver(whole[bid], price);
                    number[numbers] = bid;
                    numbers++;
                }
            }
            measureRests();
            for (int bidder = 0; bidder < BIDDERS; bidder++) {
                sum[bidder] = 0;
            }
            goods = 0;
            set = 0;
            worthNow = 0;
            bestWorth = -1;
            walk(this, 0, 0);
        }

        private void measureRests() {
            rest[numbers] = 0;
            for (int good = 0; good < GOODS; good++) {
                perGood[numbers][good] = 0;
            }
            for (int place = numbers - 1; place >= 0; place--) {
                int bid = number[place];
                int most = Math.max(0, value[bid] - cost[bid]);
                int share = SHARES * most / Math.max(1, Integer.bitCount(whole[bid]));
                rest[place] = rest[place + 1] + most;
                for (int good = 0; good < GOODS; good++) {
                    int behind = perGood[place + 1][good];
                    perGood[place][good] = (whole[bid] >> good & 1) == 1 ? Math.max(behind, share) : behind;
                }
            }
        }

        /** Goes from a SALE to all that hold it and more BIDS behind: alike ones are met by BETTER, best first. */
        private static void walk(Search s, int from, int size) {
            // Each BID takes a GOOD of its own, so no SALE has more BIDS than there are GOODS.
            if (size > GOODS) {
                return;
            }
            s.weigh(size);
            for (int place = from; place < s.numbers && s.canMatchBest(place); place++) {
                int bid = s.number[place];
                if (s.hasRoomFor(bid)) {
                    int before = s.worthNow;
                    s.take(bid);
                    walk(s, place + 1, size + 1);
                    s.putBack(bid);
                    s.worthNow = before;
                }
            }
        }

        /** Whether the BIDS from a place on could bring as much as the best so far has: if not, they are left aside. */
        private boolean canMatchBest(int place) {
            int lacking = bestWorth - worthNow;
            if (rest[place] < lacking) {
                return false;
            }
            int shares = 0;
            for (int good = 0; good < GOODS; good++) {
                if ((goods >> good & 1) == 0) {
                    shares += perGood[place][good];
                }
            }
            return shares >= SHARES * lacking;
        }

        private void weigh(int size) {
            if (worthNow > bestWorth) {
                ties = 0;
            }
            if (worthNow > bestWorth || worthNow == bestWorth && size < bestSize) {
                bestWorth = worthNow;
                bestSize = size;
                bestSet = set;
            }
            if (worthNow == bestWorth) {
                ties++;
            }
        }

        private boolean hasRoomFor(int bid) {
            int bidder = book.who[bid];
            return (goods & whole[bid]) == 0
                && (book.form[bidder] == 1 || (set & own[bidder]) == 0)
                && Integer.bitCount(goods | whole[bid]) <= mostGoods;
        }

        private void take(int bid) {
            int bidder = book.who[bid];
            int before = Math.min(cap[bidder], sum[bidder]);
            sum[bidder] += value[bid];
            worthNow += Math.min(cap[bidder], sum[bidder]) - before - cost[bid];
            goods |= whole[bid];
            set |= 1 << bid;
        }

        private void putBack(int bid) {
            sum[book.who[bid]] -= value[bid];
            goods &= ~whole[bid];
            set &= ~(1 << bid);
        }

        int goodsOf(int bids) {
            int all = 0;
            for (int bid = 0; bid < book.bids; bid++) {
                if ((bids >> bid & 1) == 1) {
                    all |= whole[bid];
                }
            }
            return all;
        }

        int hasOf(int bidder, int bids, int[] values) {
            int has = 0;
            for (int bid = 0; bid < book.bids; bid++) {
                if ((bids & own[bidder] & (1 << bid)) != 0) {
                    has += values[bid];
                }
            }
            return Math.min(has, cap[bidder]);
        }

        /** Whether a BID makes a SALE together with these that are one and have these goods. */
        boolean canJoin(int bid, int bids, int goodsOfBids) {
            int bidder = book.who[bid];
            return (canWin >> bid & 1) == 1
                && (goodsOfBids & whole[bid]) == 0
                && (book.form[bidder] == 1 || (bids & own[bidder]) == 0);
        }

        boolean isSale(int bids) {
            int ahead = 0;
            int goodsAhead = 0;
            for (int bid = 0; bid < book.bids; bid++) {
                if ((bids >> bid & 1) == 1) {
                    if (!canJoin(bid, ahead, goodsAhead)) {
                        return false;
                    }
                    ahead |= 1 << bid;
                    goodsAhead |= whole[bid];
                }
            }
            return ahead == bids;
        }

        int offerFor(int bidder, int good) {
            int most = 0;
            for (int bid = 0; bid < book.bids; bid++) {
                if ((ownThatCanWin(bidder) >> bid & 1) == 1 && whole[bid] == 1 << good) {
                    most = Math.max(most, book.value[bid]);
                }
            }
            return Math.min(most, cap[bidder]);
        }
    }

    /** What is found out about the book as it is, kept until the book changes. */
    private static final class Outcome {
        final Book book;
        final Search search;
        final Nearest nearest = new Nearest();
        int known = STALE;

        boolean isOpen = false;
        int told = 0;
        int low = 0;
        int high = 0;
        int ties = 0;
        final int[] has = new int[BIDDERS];
        final int[] worthOfGroup = new int[GROUPS];
        final int[] ruleOne = new int[BIDDERS];
        final int[] ruleTwo = new int[BIDDERS];
        final int[] cut = new int[GROUPS];
        int cuts = 0;

        Outcome(Book book, Search search) {
            this.book = book;
            this.search = search;
        }

        void know(int wanted) {
            if (known < WHOLES && wanted >= WHOLES) {
                search.readBook();
                known = WHOLES;
            }
            if (known < TOLD && wanted >= TOLD) {
                findTold();
                known = TOLD;
            }
            if (known < WORTHS && wanted >= WORTHS) {
                findWorths();
                known = WORTHS;
            }
            if (known < PAYMENTS && wanted >= PAYMENTS) {
                findNearest();
                known = PAYMENTS;
            }
        }

        private void findTold() {
            isOpen = Integer.bitCount(search.canWin) > book.limit;
            ties = 0;
            if (isOpen) {
                told = quickSale();
            } else {
                search.lookFor(search.canWin, book.value, NO_PRICES, GOODS);
                told = search.bestSet;
                ties = search.ties;
            }
            low = 0;
            high = 0;
            for (int bidder = 0; bidder < book.bidders; bidder++) {
                has[bidder] = search.hasOf(bidder, told, book.value);
                low += has[bidder];
                high += isOpen ? mostOf(bidder) : has[bidder];
            }
        }

        private int quickSale() {
            int taken = 0;
            int goods = 0;
            int waiting = search.canWin;
            for (int round = 0; round < BIDS && waiting != 0; round++) {
                int bid = densest(waiting);
                if (search.canJoin(bid, taken, goods)) {
                    taken |= 1 << bid;
                    goods |= search.whole[bid];
                }
                waiting &= ~(1 << bid);
            }
            return taken;
        }

        private int densest(int bids) {
            int found = 0;
            int foundValue = 0;
            int foundGoods = 1;
            for (int bid = 0; bid < book.bids; bid++) {
                int goods = Integer.bitCount(search.whole[bid]);
                if ((bids >> bid & 1) == 1 && book.value[bid] * foundGoods > foundValue * goods) {
                    found = bid;
                    foundValue = book.value[bid];
                    foundGoods = goods;
                }
            }
            return found;
        }

        private int mostOf(int bidder) {
            int sum = 0;
            int greatest = 0;
            for (int bid = 0; bid < book.bids; bid++) {
                if ((search.ownThatCanWin(bidder) >> bid & 1) == 1) {
                    sum += book.value[bid];
                    greatest = Math.max(greatest, book.value[bid]);
                }
            }
            return Math.min(book.form[bidder] == 1 ? sum : greatest, search.cap[bidder]);
        }

        private void findWorths() {
            for (int group = 0; group <= book.allBidders(); group++) {
                int bids = 0;
                for (int bidder = 0; bidder < book.bidders; bidder++) {
                    if ((group >> bidder & 1) == 1) {
                        bids |= search.own[bidder];
                    }
                }
                search.lookFor(search.canWin & bids, book.value, NO_PRICES, GOODS);
                worthOfGroup[group] = search.bestWorth;
            }
            for (int bidder = 0; bidder < book.bidders; bidder++) {
                int others = book.allBidders() & ~(1 << bidder);
                ruleOne[bidder] = worthOfGroup[others] - (low - has[bidder]);
            }
        }

        int payment(int bidder, int rule) {
            if (rule == 0) {
                return has[bidder];
            }
            return rule == 1 ? ruleOne[bidder] : ruleTwo[bidder];
        }

        private void findNearest() {
            cuts = 0;
            if (isOpen) {
                return;
            }
            for (int bidder = 0; bidder < book.bidders; bidder++) {
                ruleTwo[bidder] = ruleOne[bidder];
            }
            nearest.start(book.bidders, ruleOne, has);
            for (int round = 0; round < GROUPS; round++) {
                int group = mostInTheWay();
                if (lack(group, ruleTwo) <= 0) {
                    return;
                }
                cut[cuts] = group;
                cuts++;
                nearest.need[book.allBidders() & ~group] = lack(group, ruleOne);
                nearest.find();
                for (int bidder = 0; bidder < book.bidders; bidder++) {
                    ruleTwo[bidder] = ruleOne[bidder] + nearest.more[bidder];
                }
            }
        }

        private int mostInTheWay() {
            int found = 0;
            for (int group = 1; group <= book.allBidders(); group++) {
                if (lack(group, ruleTwo) > lack(found, ruleTwo)) {
                    found = group;
                }
            }
            return found;
        }

        private int lack(int group, int[] payment) {
            int lack = worthOfGroup[group];
            for (int bidder = 0; bidder < book.bidders; bidder++) {
                lack -= (group >> bidder & 1) == 1 ? has[bidder] : payment[bidder];
            }
            return lack;
        }

        /** The sum over all orders of what a BIDDER adds: its SHAPLEY times how many orders there are. */
        int sumOverOrders(int bidder) {
            int sum = 0;
            for (int ahead = 0; ahead <= book.allBidders(); ahead++) {
                if ((ahead >> bidder & 1) == 0) {
                    int many = Integer.bitCount(ahead);
                    int orders = FACTORIAL[many] * FACTORIAL[book.bidders - 1 - many];
                    sum += orders * (worthOfGroup[ahead | 1 << bidder] - worthOfGroup[ahead]);
                }
            }
            return sum;
        }

        int share(int bidder, int coins) {
            int whole = FACTORIAL[book.bidders] * worthOfGroup[book.allBidders()];
            if (whole <= 0) {
                return 0;
            }
            int mine = coins * sumOverOrders(bidder);
            int left = coins;
            int ahead = 0;
            for (int other = 0; other < book.bidders; other++) {
                int part = coins * sumOverOrders(other);
                left -= part / whole;
                if (part % whole > mine % whole || part % whole == mine % whole && other < bidder) {
                    ahead++;
                }
            }
            return mine / whole + (ahead < left ? 1 : 0);
        }

        boolean isNobodyInTheWay() {
            for (int bidder = 0; bidder < book.bidders; bidder++) {
                if (ruleTwo[bidder] < ruleOne[bidder] || ruleTwo[bidder] > has[bidder]) {
                    return false;
                }
            }
            return lack(mostInTheWay(), ruleTwo) <= 0;
        }

        boolean isMoreNeverLess() {
            for (int group = 0; group <= book.allBidders(); group++) {
                for (int part = 0; part < group; part++) {
                    if ((part & ~group) == 0 && worthOfGroup[part] > worthOfGroup[group]) {
                        return false;
                    }
                }
            }
            return true;
        }

        boolean areSharesWhole() {
            int sum = 0;
            for (int bidder = 0; bidder < book.bidders; bidder++) {
                sum += sumOverOrders(bidder);
            }
            return sum == FACTORIAL[book.bidders] * worthOfGroup[book.allBidders()];
        }
    }

    /** Finds the payments in whole coins that are nearest to RULE 1, with some GROUPS no more in the way. */
    private static final class Nearest {
        /** Of a set of BIDDERS: how much they must pay above RULE 1 together. */
        final int[] need = new int[GROUPS];
        /** What is found: how much each one pays above RULE 1. */
        final int[] more = new int[BIDDERS];

        private final int[] span = new int[BIDDERS];
        private final int[] room = new int[BIDDERS];
        private final int[] trial = new int[BIDDERS];
        private int leastSum = FAR;
        private int leastSquares = FAR;
        /** The four BIDDERS: all pairs of the outer two are tried, what the inner two do then can be told at once. */
        private int outerOne = 0;
        private int outerTwo = 1;
        private int innerOne = 2;
        private int innerTwo = 3;

        Nearest() {
        }

        void start(int bidders, int[] least, int[] most) {
            for (int set = 0; set < GROUPS; set++) {
                need[set] = 0;
            }
            for (int bidder = 0; bidder < BIDDERS; bidder++) {
                span[bidder] = bidder < bidders ? most[bidder] - least[bidder] : 0;
            }
        }

        void find() {
            measureRooms();
            pickOuter();
            leastSum = FAR;
            leastSquares = FAR;
            for (int one = 0; one <= room[outerOne] && one <= leastSum; one++) {
                for (int two = 0; two <= room[outerTwo] && one + two <= leastSum; two++) {
                    tryOuter(one, two);
                }
            }
        }

        /** Nobody pays more than the greatest need that it is in: a coin less would do, and a lesser sum is due. */
        private void measureRooms() {
            for (int bidder = 0; bidder < BIDDERS; bidder++) {
                int greatest = 0;
                for (int set = 0; set < GROUPS; set++) {
                    if ((set >> bidder & 1) == 1) {
                        greatest = Math.max(greatest, need[set]);
                    }
                }
                room[bidder] = Math.min(span[bidder], greatest);
            }
        }

        /** The two with the least room are the outer ones, so that few pairs are tried. */
        private void pickOuter() {
            outerOne = tightestBut(NONE);
            outerTwo = tightestBut(outerOne);
            innerOne = NONE;
            innerTwo = NONE;
            for (int bidder = 0; bidder < BIDDERS; bidder++) {
                if (bidder != outerOne && bidder != outerTwo) {
                    if (innerOne == NONE) {
                        innerOne = bidder;
                    } else {
                        innerTwo = bidder;
                    }
                }
            }
        }

        private int tightestBut(int other) {
            int found = other == 0 ? 1 : 0;
            for (int bidder = found + 1; bidder < BIDDERS; bidder++) {
                if (bidder != other && room[bidder] < room[found]) {
                    found = bidder;
                }
            }
            return found;
        }

        private void tryOuter(int one, int two) {
            if (needOf(0, one, two) > 0) {
                return;
            }
            int first = 1 << innerOne;
            int second = 1 << innerTwo;
            int leastFirst = needOf(first, one, two);
            int leastSecond = needOf(second, one, two);
            int both = Math.max(leastFirst + leastSecond, needOf(first | second, one, two));
            int roomFirst = room[innerOne];
            int roomSecond = room[innerTwo];
            if (leastFirst > roomFirst || leastSecond > roomSecond || both > roomFirst + roomSecond) {
                return;
            }
            // The squares are the least where both pay the same; of two alike the first one pays less.
            int half = Math.max(both / 2, Math.max(leastFirst, both - roomSecond));
            half = Math.min(half, Math.min(roomFirst, both - leastSecond));
            trial[outerOne] = one;
            trial[outerTwo] = two;
            trial[innerOne] = half;
            trial[innerTwo] = both - half;
            keepIfLess();
        }

        /** How much these inner ones must pay together, when the outer ones pay one and two; at least 0. */
        private int needOf(int inner, int one, int two) {
            int first = 1 << outerOne;
            int second = 1 << outerTwo;
            int most = Math.max(0, need[inner]);
            most = Math.max(most, need[inner | first] - one);
            most = Math.max(most, need[inner | second] - two);
            return Math.max(most, need[inner | first | second] - one - two);
        }

        private void keepIfLess() {
            int sum = 0;
            int squares = 0;
            int order = 0;
            for (int bidder = 0; bidder < BIDDERS; bidder++) {
                sum += trial[bidder];
                squares += trial[bidder] * trial[bidder];
                if (order == 0) {
                    order = trial[bidder] - more[bidder];
                }
            }
            if (sum < leastSum || sum == leastSum
                    && (squares < leastSquares || squares == leastSquares && order < 0)) {
                leastSum = sum;
                leastSquares = squares;
                System.arraycopy(trial, 0, more, 0, BIDDERS);
            }
        }
    }

    /** Looks at every SALE by the words of the document, without the short ways of the Search. */
    private static final class Audit {
        private final Search search;
        private final int told;
        private final int toldWorth;
        boolean hasBetter = false;
        int same = 0;

        Audit(Search search, int told) {
            this.search = search;
            this.told = told;
            this.toldWorth = worthOf(search, told);
        }

        private static void look(Audit audit, int from, int set, int goods, int size) {
            if (size > GOODS) {
                return;
            }
            audit.compare(set);
            for (int bid = from; bid < audit.search.book.bids; bid++) {
                if (audit.search.canJoin(bid, set, goods)) {
                    look(audit, bid + 1, set | 1 << bid, goods | audit.search.whole[bid], size + 1);
                }
            }
        }

        private void compare(int set) {
            int worth = worthOf(search, set);
            if (worth == toldWorth) {
                same++;
            }
            if (worth > toldWorth || worth == toldWorth && isAhead(set)) {
                hasBetter = true;
            }
        }

        private boolean isAhead(int set) {
            int many = Integer.bitCount(set);
            int toldMany = Integer.bitCount(told);
            int different = set ^ told;
            int smallest = different & -different;
            return many < toldMany || many == toldMany && (set & smallest) != 0;
        }

        private static int worthOf(Search search, int set) {
            int worth = 0;
            for (int bidder = 0; bidder < search.book.bidders; bidder++) {
                worth += search.hasOf(bidder, set, search.book.value);
            }
            return worth;
        }
    }

    /** Prices that rise where two or more BIDDERS want the same GOOD. */
    private static final class Clock {
        private final Book book;
        private final Search search;
        final int[] price = new int[GOODS];
        final int[] wanted = new int[BIDDERS];
        int rounds = 0;

        Clock(Book book, Search search) {
            this.book = book;
            this.search = search;
        }

        void run(int step, boolean isActive) {
            for (int good = 0; good < GOODS; good++) {
                price[good] = 0;
            }
            int wantedByTwo = -1;
            for (int round = 1; round <= ROUNDS && wantedByTwo != 0; round++) {
                rounds = round;
                wantedByTwo = askAll(isActive && round > 1);
                for (int good = 0; good < GOODS; good++) {
                    if ((wantedByTwo >> good & 1) == 1) {
                        price[good] += step;
                    }
                }
            }
        }

        private int askAll(boolean isBounded) {
            int wantedByOne = 0;
            int wantedByTwo = 0;
            for (int bidder = 0; bidder < book.bidders; bidder++) {
                int most = isBounded ? Integer.bitCount(wanted[bidder]) : GOODS;
                search.lookFor(search.ownThatCanWin(bidder), book.value, price, most);
                wanted[bidder] = search.goodsOf(search.bestSet);
                wantedByTwo |= wantedByOne & wanted[bidder];
                wantedByOne |= wanted[bidder];
            }
            return wantedByTwo;
        }
    }

    /** OFFERS that rise BID by BID for those who win nothing. */
    private static final class Proxy {
        private final Book book;
        private final Search search;
        final int[] offered = new int[BIDS];
        int winners = 0;
        int rounds = 0;

        Proxy(Book book, Search search) {
            this.book = book;
            this.search = search;
        }

        void run(int step) {
            for (int bid = 0; bid < BIDS; bid++) {
                offered[bid] = 0;
            }
            boolean isRaised = true;
            for (int round = 1; round <= ROUNDS && isRaised; round++) {
                rounds = round;
                search.lookFor(search.canWin & aboveNothing(), offered, NO_PRICES, GOODS);
                winners = search.bestSet;
                isRaised = false;
                for (int bidder = 0; bidder < book.bidders; bidder++) {
                    int bid = (winners & search.own[bidder]) == 0 ? toRaise(bidder, step) : NONE;
                    if (bid != NONE) {
                        offered[bid] += step;
                        isRaised = true;
                    }
                }
            }
        }

        private int aboveNothing() {
            int bids = 0;
            for (int bid = 0; bid < book.bids; bid++) {
                if (offered[bid] > 0) {
                    bids |= 1 << bid;
                }
            }
            return bids;
        }

        private int toRaise(int bidder, int step) {
            int found = NONE;
            int most = step - 1;
            for (int bid = 0; bid < book.bids; bid++) {
                int above = book.value[bid] - offered[bid];
                if ((search.ownThatCanWin(bidder) >> bid & 1) == 1 && above > most) {
                    most = above;
                    found = bid;
                }
            }
            return found;
        }
    }

    /** Hands out alike things to the greatest WORTHS. */
    private static final class HandOut {
        private final Book book;
        final int[] things = new int[BIDDERS];
        /** The WORTHS that get one, by their places. */
        private int winning = 0;

        HandOut(Book book) {
            this.book = book;
        }

        void give(int many) {
            winning = 0;
            for (int bidder = 0; bidder < BIDDERS; bidder++) {
                things[bidder] = 0;
            }
            for (int k = 0; k < many; k++) {
                int place = greatestBut(winning);
                if (place != NONE) {
                    winning |= 1 << place;
                    things[place / WISHES]++;
                }
            }
        }

        /** The place of the greatest of the WORTHS above 0 that are not among the passed ones. */
        private int greatestBut(int passed) {
            int found = NONE;
            int most = 0;
            for (int place = 0; place < book.bidders * WISHES; place++) {
                if ((passed >> place & 1) == 0 && book.wish[place] > most) {
                    most = book.wish[place];
                    found = place;
                }
            }
            return found;
        }

        int payment(int bidder, int kind) {
            int mine = ((1 << WISHES) - 1) << bidder * WISHES;
            if (kind == 0) {
                return sumOfWinning(mine);
            }
            if (kind == 1) {
                return things[bidder] * sumOfGreatest(1, winning);
            }
            return sumOfGreatest(things[bidder], winning | mine);
        }

        private int sumOfWinning(int places) {
            int sum = 0;
            for (int place = 0; place < book.bidders * WISHES; place++) {
                if ((winning & places & 1 << place) != 0) {
                    sum += book.wish[place];
                }
            }
            return sum;
        }

        private int sumOfGreatest(int many, int passedFirst) {
            int sum = 0;
            int passed = passedFirst;
            for (int k = 0; k < many; k++) {
                int place = greatestBut(passed);
                if (place != NONE) {
                    sum += book.wish[place];
                    passed |= 1 << place;
                }
            }
            return sum;
        }
    }

    /** BUYERS and SELLERS who meet. */
    private static final class Trade {
        private final Book book;
        private final int[] fromGreatest = new int[TRADERS];
        private final int[] fromLeast = new int[TRADERS];
        int pairs = 0;
        /** Twice the coins, so that a half is a whole number too. */
        int buyersPayTwice = 0;
        int sellersGetTwice = 0;
        int lostWorth = 0;

        Trade(Book book) {
            this.book = book;
        }

        void meet() {
            sort(book.buyer, book.buyers, fromGreatest, true);
            sort(book.seller, book.sellers, fromLeast, false);
            int both = Math.min(book.buyers, book.sellers);
            int agreed = 0;
            while (agreed < both && fromGreatest[agreed] >= fromLeast[agreed]) {
                agreed++;
            }
            pairs = 0;
            lostWorth = 0;
            if (agreed == 0) {
                return;
            }
            int lastBuyer = fromGreatest[agreed - 1];
            int lastSeller = fromLeast[agreed - 1];
            int middleTwice = agreed < both ? fromGreatest[agreed] + fromLeast[agreed] : NONE;
            if (middleTwice != NONE && middleTwice <= 2 * lastBuyer && middleTwice >= 2 * lastSeller) {
                pairs = agreed;
                buyersPayTwice = middleTwice;
                sellersGetTwice = middleTwice;
            } else {
                pairs = agreed - 1;
                buyersPayTwice = 2 * lastBuyer;
                sellersGetTwice = 2 * lastSeller;
                lostWorth = lastBuyer - lastSeller;
            }
        }

        private static void sort(int[] coins, int many, int[] sorted, boolean isFalling) {
            for (int k = 0; k < many; k++) {
                int at = k;
                while (at > 0 && (isFalling ? sorted[at - 1] < coins[k] : sorted[at - 1] > coins[k])) {
                    sorted[at] = sorted[at - 1];
                    at--;
                }
                sorted[at] = coins[k];
            }
        }
    }

    /** Matched markets: at most one GOOD for each BIDDER. */
    private static final class Matcher {
        private final Book book;
        private final Search search;
        private final int[][] offered = new int[BIDDERS][GOODS];
        /** What the BIDDERS from one on can bring at most. */
        private final int[] rest = new int[BIDDERS + 1];
        private final int[] trial = new int[BIDDERS];
        int market = 0;
        final int[] given = new int[BIDDERS];
        private int greatest = 0;

        Matcher(Book book, Search search) {
            this.book = book;
            this.search = search;
        }

        void readOffers() {
            int live = book.liveGoods();
            market = 0;
            for (int good = 0; good < GOODS; good++) {
                if ((live >> good & 1) == 1 && book.teamOf(good) == 1 << good) {
                    market |= 1 << good;
                }
            }
            rest[book.bidders] = 0;
            for (int bidder = book.bidders - 1; bidder >= 0; bidder--) {
                int most = 0;
                for (int good = 0; good < GOODS; good++) {
                    offered[bidder][good] = search.offerFor(bidder, good);
                    most = Math.max(most, offered[bidder][good]);
                }
                rest[bidder] = rest[bidder + 1] + most;
            }
        }

        /** The greatest sum with these goods, and those of twice once more. */
        int match(int goods, int twice) {
            greatest = -1;
            giveFrom(this, 0, goods, twice, 0);
            return greatest;
        }

        /** Meets the MATCHINGS in the order in which they are preferred, so that the first one of a sum is kept. */
        private static void giveFrom(Matcher m, int bidder, int goods, int twice, int sum) {
            if (sum + m.rest[bidder] <= m.greatest) {
                return;
            }
            if (bidder >= m.book.bidders) {
                m.greatest = sum;
                System.arraycopy(m.trial, 0, m.given, 0, BIDDERS);
                return;
            }
            for (int good = 0; good < GOODS; good++) {
                int place = 1 << good;
                int worth = m.offered[bidder][good];
                if ((goods & place) != 0 && worth > 0) {
                    m.trial[bidder] = good;
                    giveFrom(m, bidder + 1, (twice & place) != 0 ? goods : goods & ~place, twice & ~place, sum + worth);
                }
            }
            m.trial[bidder] = NONE;
            giveFrom(m, bidder + 1, goods, twice, sum);
        }

        int edgeOf(int good, boolean isLeast) {
            int place = 1 << good;
            if ((market & place) == 0) {
                return CANNOT;
            }
            int asIs = match(market, 0);
            return isLeast ? match(market, place) - asIs : asIs - match(market & ~place, 0);
        }

        int mostLeft(int bidder, int[] price) {
            int most = 0;
            for (int good = 0; good < GOODS; good++) {
                if ((market >> good & 1) == 1) {
                    most = Math.max(most, offered[bidder][good] - price[good]);
                }
            }
            return most;
        }
    }

    /** TYPED, and how PIECES are read. */
    private static final class Typing {
        private final Book book;
        private final int[] key = new int[6];
        /** The BIDS that are read, each as one number. */
        private final int[] piece = new int[BIDS];
        int pieces = 0;
        private final int[] listSign = new int[LIST_SIGNS];

        Typing(Book book) {
            this.book = book;
        }

        void setKeys(int a, int b, int c, int d, int e, int f) {
            key[0] = a;
            key[1] = b;
            key[2] = c;
            key[3] = d;
            key[4] = e;
            key[5] = f;
        }

        boolean hasRoomForKeys() {
            int signs = book.signs;
            for (int code : key) {
                signs = signsAfter(signs, code);
                if (signs > SIGNS) {
                    return false;
                }
            }
            return true;
        }

        void pressKeys() {
            for (int code : key) {
                if (code >= 0 && code < ERASE && book.signs < SIGNS) {
                    book.sign[book.signs] = code;
                }
                book.signs = signsAfter(book.signs, code);
            }
        }

        private static int signsAfter(int signs, int code) {
            if (code == NONE) {
                return signs;
            }
            if (code == CLEAR) {
                return 0;
            }
            return code == ERASE ? Math.max(0, signs - 1) : signs + 1;
        }

        /** Reads the PIECES of TYPED for the BIDS that there are; tells FAULT. */
        int readTyped() {
            return readPieces(book.sign, book.signs, book.bids);
        }

        /** Reads PIECES; tells the number of the first one that is wrong beside so many BIDS, or NONE. */
        private int readPieces(int[] sign, int signs, int bids) {
            pieces = 0;
            int from = 0;
            for (int at = 0; at <= signs; at++) {
                if (at == signs || sign[at] == SEMICOLON) {
                    if (at > from) {
                        int read = readPiece(sign, from, at);
                        if (read == NONE || bids + pieces >= BIDS || isKnown(read, bids)) {
                            return pieces;
                        }
                        piece[pieces] = read;
                        pieces++;
                    }
                    from = at + 1;
                }
            }
            return NONE;
        }

        private boolean isKnown(int read, int bids) {
            for (int k = 0; k < pieces; k++) {
                if (piece[k] / 100 == read / 100) {
                    return true;
                }
            }
            return bids > 0 && book.hasBid(whoOf(read), bundleOf(read));
        }

        /** The BID of the signs from one to ahead of another, as one number; NONE if they are not RIGHT. */
        private int readPiece(int[] sign, int from, int to) {
            if (to - from < 5 || sign[from] >= book.bidders || sign[from + 1] != COLON) {
                return NONE;
            }
            int bundle = 0;
            int at = from + 2;
            while (at < to && sign[at] < GOODS && bundle < 1 << sign[at]) {
                bundle |= 1 << sign[at];
                at++;
            }
            int digits = to - at - 1;
            if (bundle == 0 || digits < 1 || digits > 2 || sign[at] != EQUALS) {
                return NONE;
            }
            int value = 0;
            for (int k = at + 1; k < to; k++) {
                if (sign[k] > 9) {
                    return NONE;
                }
                value = value * 10 + sign[k];
            }
            return value == 0 ? NONE : (sign[from] * 64 + bundle) * 100 + value;
        }

        private static int whoOf(int read) {
            return read / 6400;
        }

        private static int bundleOf(int read) {
            return read / 100 % 64;
        }

        private static int valueOf(int read) {
            return read % 100;
        }

        void addPieces() {
            for (int k = 0; k < pieces; k++) {
                book.addBid(whoOf(piece[k]), bundleOf(piece[k]), valueOf(piece[k]));
            }
        }

        /** Whether a text, read, is the BIDS. */
        boolean isList(String text) {
            if (text.length() > LIST_SIGNS) {
                return false;
            }
            for (int k = 0; k < text.length(); k++) {
                listSign[k] = SIGN_TEXT.indexOf(text.charAt(k));
                if (listSign[k] < 0) {
                    return false;
                }
            }
            if (readPieces(listSign, text.length(), 0) != NONE || pieces != book.bids) {
                return false;
            }
            for (int k = 0; k < pieces; k++) {
                if (whoOf(piece[k]) != book.who[k] || bundleOf(piece[k]) != book.bundle[k]
                        || valueOf(piece[k]) != book.value[k]) {
                    return false;
                }
            }
            return true;
        }
    }
}
