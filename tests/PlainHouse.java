import java.util.ArrayList;
import java.util.Arrays;
import java.util.Collections;
import java.util.Comparator;
import java.util.List;
import java.util.TreeSet;

/**
 * The document, written down once more in the slowest and plainest way, for comparing. It takes sets of numbers
 * instead of bits where it can, looks at every subset of the BIDS, every order of the BIDDERS, all payments.
 */
final class PlainHouse {
    static final int TOO_MANY = Integer.MIN_VALUE;

    private static final class Bid {
        int who;
        TreeSet<Integer> bundle;
        int value;

        Bid(int who, TreeSet<Integer> bundle, int value) {
            this.who = who;
            this.bundle = bundle;
            this.value = value;
        }
    }

    private static final class State {
        List<Integer> forms = new ArrayList<>();
        List<Integer> budgets = new ArrayList<>();
        List<Integer> paid = new ArrayList<>();
        List<int[]> worths = new ArrayList<>();
        List<Bid> bids = new ArrayList<>();
        int[] owner = {-1, -1, -1, -1, -1, -1};
        boolean[][] joined = new boolean[6][6];
        int limit = 16;
        int[] price = new int[6];
        String typed = "";
        List<Integer> buyers = new ArrayList<>();
        List<Integer> sellers = new ArrayList<>();
        boolean frozen = false;

        State copy() {
            State c = new State();
            c.forms.addAll(forms);
            c.budgets.addAll(budgets);
            c.paid.addAll(paid);
            for (int[] w : worths) {
                c.worths.add(w.clone());
            }
            for (Bid b : bids) {
                c.bids.add(new Bid(b.who, new TreeSet<>(b.bundle), b.value));
            }
            c.owner = owner.clone();
            for (int g = 0; g < 6; g++) {
                c.joined[g] = joined[g].clone();
            }
            c.limit = limit;
            c.price = price.clone();
            c.typed = typed;
            c.buyers.addAll(buyers);
            c.sellers.addAll(sellers);
            c.frozen = frozen;
            return c;
        }
    }

    private State s = new State();
    private final List<State> past = new ArrayList<>();
    private int refused = 0;
    /** All SALES, whatever the VALUES are; made anew after each change. */
    private List<List<Integer>> sales = null;
    private int[] nearestFound = null;
    private List<Integer> cutsFound = null;

    private void keep() {
        past.add(s.copy());
        if (past.size() > 40) {
            past.remove(0);
        }
        forget();
    }

    private void forget() {
        sales = null;
        nearestFound = null;
        cutsFound = null;
    }

    private int n() {
        return s.forms.size();
    }

    private void bidderThere(int bidder) {
        if (bidder < 0 || bidder >= n()) throw new IndexOutOfBoundsException();
    }

    private void bidThere(int bid) {
        if (bid < 0 || bid >= s.bids.size()) throw new IndexOutOfBoundsException();
    }

    private void goodThere(int good) {
        if (good < 0 || good > 5) throw new IndexOutOfBoundsException();
    }

    private void within(int x, int low, int high) {
        if (x < low || x > high) throw new IllegalArgumentException();
    }

    private static TreeSet<Integer> setOf(int mask) {
        TreeSet<Integer> set = new TreeSet<>();
        for (int k = 0; k < 31; k++) {
            if ((mask & (1 << k)) != 0) set.add(k);
        }
        return set;
    }

    private static int maskOf(Iterable<Integer> set) {
        int mask = 0;
        for (int k : set) mask += 1 << k;
        return mask;
    }

    private static String row(List<?> parts) {
        StringBuilder text = new StringBuilder();
        for (Object part : parts) {
            if (text.length() > 0) text.append(" ");
            text.append(part);
        }
        return text.toString();
    }

    // ---- done

    int bidder(int form) {
        within(form, 0, 1);
        if (n() == 4) throw new IllegalStateException();
        keep();
        s.forms.add(form);
        s.budgets.add(-1);
        s.paid.add(0);
        s.worths.add(new int[3]);
        return n() - 1;
    }

    int budget(int bidder, int coins) {
        bidderThere(bidder);
        within(coins, -1, 999);
        keep();
        return s.budgets.set(bidder, coins);
    }

    private boolean bidsOn(int bidder, TreeSet<Integer> bundle) {
        for (Bid b : s.bids) {
            if (b.who == bidder && b.bundle.equals(bundle)) return true;
        }
        return false;
    }

    int bid(int bidder, int bundle, int value) {
        bidderThere(bidder);
        within(bundle, 1, 63);
        within(value, 1, 99);
        if (s.bids.size() == 16 || s.frozen) throw new IllegalStateException();
        if (bidsOn(bidder, setOf(bundle))) return -9;
        keep();
        s.bids.add(new Bid(bidder, setOf(bundle), value));
        return s.bids.size() - 1;
    }

    int change(int bid, int value) {
        bidThere(bid);
        within(value, 1, 99);
        if (s.frozen) throw new IllegalStateException();
        keep();
        int before = s.bids.get(bid).value;
        s.bids.get(bid).value = value;
        return before;
    }

    int withdraw(int bid) {
        bidThere(bid);
        if (s.frozen) throw new IllegalStateException();
        keep();
        s.bids.remove(bid);
        return s.bids.size();
    }

    private int liveCount() {
        int live = 0;
        for (int o : s.owner) if (o == -1) live++;
        return live;
    }

    int out(int good, boolean isOut) {
        goodThere(good);
        if (s.owner[good] >= 0) return -9;
        keep();
        s.owner[good] = isOut ? -9 : -1;
        return liveCount();
    }

    int join(int good, int other, boolean isJoined) {
        goodThere(good);
        goodThere(other);
        if (good == other) throw new IllegalArgumentException();
        keep();
        s.joined[good][other] = isJoined;
        s.joined[other][good] = isJoined;
        return team(good);
    }

    int limit(int many) {
        within(many, 0, 16);
        keep();
        int before = s.limit;
        s.limit = many;
        return before;
    }

    int price(int good, int coins) {
        goodThere(good);
        within(coins, 0, 99);
        keep();
        int before = s.price[good];
        s.price[good] = coins;
        return before;
    }

    int say(int... codes) {
        for (int code : codes) within(code, -1, 14);
        String text = s.typed;
        for (int code : codes) {
            if (code == 14) text = "";
            else if (code == 13) text = text.isEmpty() ? "" : text.substring(0, text.length() - 1);
            else if (code >= 0) text += "0123456789:=;".substring(code, code + 1);
            if (text.length() > 60) throw new IllegalStateException();
        }
        keep();
        s.typed = text;
        return text.length();
    }

    private List<String> pieces() {
        List<String> found = new ArrayList<>();
        for (String part : s.typed.split(";", -1)) {
            if (!part.isEmpty()) found.add(part);
        }
        return found;
    }

    private Bid read(String piece) {
        if (!piece.matches("[0-9]:0?1?2?3?4?5?=[0-9][0-9]?")) return null;
        int who = piece.charAt(0) - '0';
        String goods = piece.substring(2, piece.indexOf('='));
        int value = Integer.parseInt(piece.substring(piece.indexOf('=') + 1));
        if (who >= n() || goods.isEmpty() || value < 1) return null;
        TreeSet<Integer> bundle = new TreeSet<>();
        for (char c : goods.toCharArray()) bundle.add(c - '0');
        return new Bid(who, bundle, value);
    }

    int enter() {
        if (s.frozen) throw new IllegalStateException();
        int fault = fault();
        if (fault >= 0) return -100 - fault;
        keep();
        for (String piece : pieces()) s.bids.add(read(piece));
        return pieces().size();
    }

    int worths(int bidder, int first, int second, int third) {
        bidderThere(bidder);
        within(first, 0, 99);
        within(second, 0, 99);
        within(third, 0, 99);
        if (second > first || third > second) throw new IllegalArgumentException();
        keep();
        int[] w = s.worths.get(bidder);
        int before = w[0] + w[1] + w[2];
        s.worths.set(bidder, new int[] {first, second, third});
        return before;
    }

    int offer(boolean isBuyer, int coins) {
        within(coins, 1, 999);
        if ((isBuyer ? s.buyers : s.sellers).size() == 8) throw new IllegalStateException();
        keep();
        List<Integer> these = isBuyer ? s.buyers : s.sellers;
        these.add(coins);
        return these.size();
    }

    boolean freeze(boolean isFrozen) {
        keep();
        boolean before = s.frozen;
        s.frozen = isFrozen;
        return before;
    }

    /** TOO_MANY, if RULE 2 is too dear to be looked through; nothing is done then. */
    int sell(int rule) {
        within(rule, 0, 2);
        if (isOpen()) return -9;
        List<Integer> best = best();
        if (best.isEmpty()) return -9;
        int[] pay = new int[n()];
        for (int b = 0; b < n(); b++) {
            pay[b] = pays(b, rule);
            if (pay[b] == TOO_MANY) return TOO_MANY;
        }
        List<TreeSet<Integer>> wholes = new ArrayList<>();
        for (int k : best) wholes.add(whole(k));
        keep();
        int sum = 0;
        for (int b = 0; b < n(); b++) {
            s.paid.set(b, s.paid.get(b) + pay[b]);
            sum += pay[b];
        }
        for (int k = best.size() - 1; k >= 0; k--) {
            for (int g : wholes.get(k)) s.owner[g] = s.bids.get(best.get(k)).who;
            s.bids.remove((int) best.get(k));
        }
        return sum;
    }

    int giveUp(int good) {
        goodThere(good);
        if (s.owner[good] < 0) return -9;
        keep();
        int before = s.owner[good];
        s.owner[good] = -1;
        return before;
    }

    int undo() {
        if (past.isEmpty()) throw new IllegalStateException();
        s = past.remove(past.size() - 1);
        forget();
        return past.size();
    }

    int knock() {
        return ++refused;
    }

    // ---- goods and bids

    private TreeSet<Integer> whole(int bid) {
        TreeSet<Integer> all = new TreeSet<>();
        for (int g : s.bids.get(bid).bundle) all.addAll(setOf(team(g)));
        return all;
    }

    private boolean canWin(int bid) {
        for (int g : whole(bid)) {
            if (s.owner[g] != -1) return false;
        }
        return true;
    }

    private int winnable() {
        int many = 0;
        for (int b = 0; b < s.bids.size(); b++) if (canWin(b)) many++;
        return many;
    }

    private boolean isOpen() {
        return winnable() > s.limit;
    }

    int ofBid(int bid, int what) {
        bidThere(bid);
        within(what, 0, 5);
        Bid b = s.bids.get(bid);
        if (what == 0) return b.who;
        if (what == 1) return maskOf(b.bundle);
        if (what == 2) return b.value;
        if (what == 3) return maskOf(whole(bid));
        if (what == 4) return canWin(bid) ? 1 : 0;
        return told().contains(bid) ? 1 : 0;
    }

    String list() {
        List<String> parts = new ArrayList<>();
        for (Bid b : s.bids) {
            String goods = "";
            for (int g : b.bundle) goods += g;
            parts.add(b.who + ":" + goods + "=" + b.value);
        }
        return String.join(";", parts);
    }

    String typed() {
        return s.typed;
    }

    int fault() {
        List<Bid> ahead = new ArrayList<>();
        int number = 0;
        for (String piece : pieces()) {
            Bid b = read(piece);
            if (b == null || bidsOn(b.who, b.bundle) || s.bids.size() + ahead.size() + 1 > 16) return number;
            for (Bid a : ahead) {
                if (a.who == b.who && a.bundle.equals(b.bundle)) return number;
            }
            ahead.add(b);
            number++;
        }
        return -1;
    }

    int team(int good) {
        goodThere(good);
        TreeSet<Integer> team = new TreeSet<>();
        List<Integer> todo = new ArrayList<>();
        todo.add(good);
        while (!todo.isEmpty()) {
            int g = todo.remove(0);
            if (team.add(g)) {
                for (int h = 0; h < 6; h++) if (s.joined[g][h]) todo.add(h);
            }
        }
        return maskOf(team);
    }

    int owner(int good) {
        goodThere(good);
        return s.owner[good];
    }

    int forms() {
        int set = 0;
        boolean rows = true;
        boolean nested = true;
        boolean ones = true;
        for (Bid b : s.bids) {
            for (int g = b.bundle.first(); g <= b.bundle.last(); g++) if (!b.bundle.contains(g)) rows = false;
            if (b.bundle.size() != 1) ones = false;
            for (Bid c : s.bids) {
                if (!b.bundle.containsAll(c.bundle) && !c.bundle.containsAll(b.bundle)
                        && !Collections.disjoint(b.bundle, c.bundle)) nested = false;
            }
        }
        if (rows) set += 1;
        if (nested) set += 2;
        if (ones) set += 4;
        return set;
    }

    // ---- sales

    private boolean isSale(List<Integer> bids) {
        for (int i = 0; i < bids.size(); i++) {
            if (!canWin(bids.get(i))) return false;
            for (int j = 0; j < i; j++) {
                if (!Collections.disjoint(whole(bids.get(i)), whole(bids.get(j)))) return false;
                int who = s.bids.get(bids.get(i)).who;
                if (who == s.bids.get(bids.get(j)).who && s.forms.get(who) == 0) return false;
            }
        }
        return true;
    }

    /** All subsets are looked at, but those that hold two BIDS that can't go together. */
    private List<List<Integer>> sales() {
        if (sales == null) {
            int many = s.bids.size();
            int[] clash = new int[many];
            for (int i = 0; i < many; i++) {
                for (int j = 0; j <= i; j++) {
                    List<Integer> two = i == j ? List.of(i) : List.of(j, i);
                    if (!isSale(two)) clash[i] |= 1 << j;
                }
            }
            sales = new ArrayList<>();
            for (int mask = 0; mask < 1 << many; mask++) {
                boolean ok = true;
                for (int i = 0; i < many && ok; i++) if ((mask >> i & 1) == 1 && (clash[i] & mask) != 0) ok = false;
                if (ok) sales.add(new ArrayList<>(setOf(mask)));
            }
        }
        return sales;
    }

    private int[] values() {
        int[] v = new int[s.bids.size()];
        for (int k = 0; k < v.length; k++) v[k] = s.bids.get(k).value;
        return v;
    }

    private int has(int bidder, List<Integer> sale, int[] values) {
        int sum = 0;
        for (int k : sale) if (s.bids.get(k).who == bidder) sum += values[k];
        return s.budgets.get(bidder) == -1 ? sum : Math.min(sum, s.budgets.get(bidder));
    }

    private int worth(List<Integer> sale, int[] values) {
        int sum = 0;
        for (int b = 0; b < n(); b++) sum += has(b, sale, values);
        return sum;
    }

    /** Whether a is ahead of b, both of the same worth. */
    private static boolean ahead(List<Integer> a, List<Integer> b) {
        if (a.size() != b.size()) return a.size() < b.size();
        TreeSet<Integer> one = new TreeSet<>(a);
        one.addAll(b);
        for (int k : one) {
            if (a.contains(k) != b.contains(k)) return a.contains(k);
        }
        return false;
    }

    private List<Integer> best(int[] values, TreeSet<Integer> group, TreeSet<Integer> bids) {
        List<Integer> best = null;
        int most = -1;
        for (List<Integer> sale : sales()) {
            boolean ok = true;
            for (int k : sale) {
                if (!group.contains(s.bids.get(k).who) || bids != null && !bids.contains(k)) ok = false;
            }
            if (!ok) continue;
            int worth = worth(sale, values);
            if (best == null || worth > most || worth == most && ahead(sale, best)) {
                best = sale;
                most = worth;
            }
        }
        return best;
    }

    private List<Integer> best() {
        return best(values(), setOf((1 << n()) - 1), null);
    }

    private List<Integer> told() {
        if (!isOpen()) return best();
        List<Integer> order = new ArrayList<>();
        for (int k = 0; k < s.bids.size(); k++) if (canWin(k)) order.add(k);
        order.sort((a, b) -> {
            int x = s.bids.get(a).value * whole(b).size();
            int y = s.bids.get(b).value * whole(a).size();
            return x != y ? Integer.compare(y, x) : Integer.compare(a, b);
        });
        List<Integer> taken = new ArrayList<>();
        for (int k : order) {
            taken.add(k);
            if (!isSale(taken)) taken.remove(taken.size() - 1);
        }
        Collections.sort(taken);
        return taken;
    }

    String sale() {
        return row(told());
    }

    int bound(boolean isHigh) {
        if (!isHigh || !isOpen()) return worth(told(), values());
        int sum = 0;
        for (int b = 0; b < n(); b++) {
            int all = 0;
            int most = 0;
            for (int k = 0; k < s.bids.size(); k++) {
                if (s.bids.get(k).who == b && canWin(k)) {
                    all += s.bids.get(k).value;
                    most = Math.max(most, s.bids.get(k).value);
                }
            }
            int has = s.forms.get(b) == 1 ? all : most;
            sum += s.budgets.get(b) == -1 ? has : Math.min(has, s.budgets.get(b));
        }
        return sum;
    }

    int count() {
        if (isOpen()) return -9;
        int most = worth(best(), values());
        int many = 0;
        for (List<Integer> sale : sales()) if (worth(sale, values()) == most) many++;
        return many;
    }

    private int groupWorth(int group) {
        return worth(best(values(), setOf(group), null), values());
    }

    int worth(int group) {
        within(group, 0, 15);
        for (int b : setOf(group)) if (b >= n()) throw new IllegalArgumentException();
        return isOpen() ? -9 : groupWorth(group);
    }

    int gets(int bidder, int what) {
        bidderThere(bidder);
        within(what, 0, 2);
        if (what == 2) return s.paid.get(bidder);
        if (what == 1) return has(bidder, told(), values());
        TreeSet<Integer> goods = new TreeSet<>();
        for (int k : told()) if (s.bids.get(k).who == bidder) goods.addAll(whole(k));
        return maskOf(goods);
    }

    private int ruleOne(int bidder) {
        List<Integer> best = best();
        int others = 0;
        int group = 0;
        for (int b = 0; b < n(); b++) {
            if (b != bidder) {
                others += has(b, best, values());
                group += 1 << b;
            }
        }
        return groupWorth(group) - others;
    }

    int pays(int bidder, int rule) {
        bidderThere(bidder);
        within(rule, 0, 2);
        if (isOpen()) return -9;
        if (rule == 0) return has(bidder, best(), values());
        if (rule == 1) return ruleOne(bidder);
        findNearest();
        return nearestFound == null ? TOO_MANY : nearestFound[bidder];
    }

    String cuts() {
        if (isOpen()) return "-";
        findNearest();
        return nearestFound == null ? null : row(cutsFound);
    }

    private int lack(int group, int[] worth, int[] has, int[] pay) {
        int lack = worth[group];
        for (int b = 0; b < n(); b++) lack -= (group >> b & 1) == 1 ? has[b] : pay[b];
        return lack;
    }

    private void findNearest() {
        if (nearestFound != null) return;
        int[] low = new int[n()];
        int[] high = new int[n()];
        int[] worth = new int[1 << n()];
        List<Integer> best = best();
        long all = 1;
        for (int b = 0; b < n(); b++) {
            low[b] = ruleOne(b);
            high[b] = has(b, best, values());
            all *= high[b] - low[b] + 1;
        }
        if (all > 200000) return;
        for (int g = 0; g < worth.length; g++) worth[g] = groupWorth(g);
        List<Integer> cuts = new ArrayList<>();
        int[] pay = low.clone();
        while (true) {
            int most = 0;
            int found = -1;
            for (int g = 0; g < worth.length; g++) {
                int lack = lack(g, worth, high, pay);
                if (lack > most) {
                    most = lack;
                    found = g;
                }
            }
            if (found == -1) break;
            cuts.add(found);
            pay = nearest(cuts, worth, low, high);
        }
        cutsFound = cuts;
        nearestFound = pay;
    }

    private int[] nearest(List<Integer> cuts, int[] worth, int[] low, int[] high) {
        int[] pay = low.clone();
        int[] best = null;
        long bestSum = 0;
        long bestSquares = 0;
        // Payments are met in rising order, so of alike ones the first is the one that is due.
        while (true) {
            boolean ok = true;
            for (int g : cuts) if (lack(g, worth, high, pay) > 0) ok = false;
            if (ok) {
                long sum = 0;
                long squares = 0;
                for (int b = 0; b < pay.length; b++) {
                    sum += pay[b];
                    squares += (long) (pay[b] - low[b]) * (pay[b] - low[b]);
                }
                if (best == null || sum < bestSum || sum == bestSum && squares < bestSquares) {
                    best = pay.clone();
                    bestSum = sum;
                    bestSquares = squares;
                }
            }
            int at = pay.length - 1;
            while (at >= 0 && pay[at] == high[at]) {
                pay[at] = low[at];
                at--;
            }
            if (at < 0) return best;
            pay[at]++;
        }
    }

    private int leaves(int bid, int value, int rule) {
        int[] told = values();
        told[bid] = value;
        int who = s.bids.get(bid).who;
        TreeSet<Integer> all = setOf((1 << n()) - 1);
        List<Integer> best = best(told, all, null);
        int pay = has(who, best, told);
        if (rule == 1) {
            TreeSet<Integer> others = setOf((1 << n()) - 1);
            others.remove(who);
            pay = worth(best(told, others, null), told) - (worth(best, told) - has(who, best, told));
        }
        return has(who, best, values()) - pay;
    }

    int gain(int bid, int value, int rule) {
        bidThere(bid);
        within(value, 1, 99);
        within(rule, 0, 1);
        if (isOpen()) return -9999;
        return leaves(bid, value, rule) - leaves(bid, s.bids.get(bid).value, rule);
    }

    int lie(int bid, int rule) {
        bidThere(bid);
        within(rule, 0, 1);
        if (isOpen()) return -1;
        int most = 0;
        int found = -1;
        int asIs = leaves(bid, s.bids.get(bid).value, rule);
        for (int v = 1; v <= 99; v++) {
            int gain = leaves(bid, v, rule) - asIs;
            if (gain > most) {
                most = gain;
                found = v;
            }
        }
        return found;
    }

    // ---- prices

    private TreeSet<Integer> goods(List<Integer> sale, int bidder) {
        TreeSet<Integer> goods = new TreeSet<>();
        for (int k : sale) if (s.bids.get(k).who == bidder) goods.addAll(whole(k));
        return goods;
    }

    private int left(int bidder, List<Integer> sale, int[] prices) {
        int left = has(bidder, sale, values());
        for (int g : goods(sale, bidder)) left -= prices[g];
        return left;
    }

    private List<Integer> demanded(int bidder, int[] prices, int mostGoods) {
        List<Integer> best = null;
        for (List<Integer> sale : sales()) {
            boolean own = true;
            for (int k : sale) if (s.bids.get(k).who != bidder) own = false;
            if (!own || goods(sale, bidder).size() > mostGoods) continue;
            if (best == null || left(bidder, sale, prices) > left(bidder, best, prices)
                    || left(bidder, sale, prices) == left(bidder, best, prices) && ahead(sale, best)) best = sale;
        }
        return best;
    }

    String demand(int bidder) {
        bidderThere(bidder);
        return row(demanded(bidder, s.price, 6));
    }

    boolean hold() {
        if (isOpen()) return false;
        List<Integer> best = best();
        TreeSet<Integer> sold = new TreeSet<>();
        for (int b = 0; b < n(); b++) {
            if (left(b, best, s.price) != left(b, demanded(b, s.price, 6), s.price)) return false;
            sold.addAll(goods(best, b));
        }
        for (int g = 0; g < 6; g++) {
            if (s.owner[g] == -1 && !sold.contains(g) && s.price[g] != 0) return false;
        }
        return true;
    }

    String clock(int step, boolean isActive) {
        within(step, 5, 50);
        int[] prices = new int[6];
        int[] most = {6, 6, 6, 6};
        for (int round = 1; ; round++) {
            int[] wanting = new int[6];
            List<Object> told = new ArrayList<>();
            told.add(round);
            for (int p : prices) told.add(p);
            for (int b = 0; b < n(); b++) {
                TreeSet<Integer> goods = goods(demanded(b, prices, most[b]), b);
                for (int g : goods) wanting[g]++;
                told.add(maskOf(goods));
                if (isActive) most[b] = goods.size();
            }
            boolean raised = false;
            for (int g = 0; g < 6; g++) {
                if (wanting[g] >= 2) {
                    prices[g] += step;
                    raised = true;
                }
            }
            if (!raised) return row(told);
        }
    }

    String proxy(int step) {
        within(step, 5, 50);
        int[] offers = new int[s.bids.size()];
        for (int round = 1; ; round++) {
            TreeSet<Integer> made = new TreeSet<>();
            for (int k = 0; k < offers.length; k++) if (offers[k] > 0) made.add(k);
            List<Integer> best = best(offers, setOf((1 << n()) - 1), made);
            boolean raised = false;
            int[] next = offers.clone();
            for (int b = 0; b < n(); b++) {
                boolean wins = false;
                for (int k : best) if (s.bids.get(k).who == b) wins = true;
                if (wins) continue;
                int found = -1;
                for (int k = 0; k < offers.length; k++) {
                    if (s.bids.get(k).who != b || !canWin(k) || s.bids.get(k).value < offers[k] + step) continue;
                    if (found == -1
                            || s.bids.get(k).value - offers[k] > s.bids.get(found).value - offers[found]) found = k;
                }
                if (found != -1) {
                    next[found] += step;
                    raised = true;
                }
            }
            if (!raised) {
                List<Object> told = new ArrayList<>();
                told.add(round);
                for (int b = 0; b < n(); b++) told.add(has(b, best, offers));
                return row(told);
            }
            offers = next;
        }
    }

    // ---- one good, alike ones, trades

    private int offerFor(int bidder, int good) {
        int most = 0;
        for (int k = 0; k < s.bids.size(); k++) {
            if (s.bids.get(k).who == bidder && canWin(k) && maskOf(whole(k)) == 1 << good) {
                most = Math.max(most, s.bids.get(k).value);
            }
        }
        return s.budgets.get(bidder) == -1 ? most : Math.min(most, s.budgets.get(bidder));
    }

    String single(int good, int kind, int least) {
        goodThere(good);
        within(kind, 0, 2);
        within(least, 0, 99);
        List<Integer> order = new ArrayList<>();
        int sum = 0;
        for (int b = 0; b < n(); b++) {
            if (offerFor(b, good) > 0 && offerFor(b, good) >= least) {
                order.add(b);
                sum += offerFor(b, good);
            }
        }
        if (order.isEmpty()) return "-";
        order.sort(Comparator.comparingInt(b -> -offerFor(b, good)));
        int winner = order.get(0);
        if (kind == 0) return winner + " " + offerFor(winner, good);
        if (kind == 2) return winner + " " + sum;
        return winner + " " + (order.size() == 1 ? least : Math.max(least, offerFor(order.get(1), good)));
    }

    String handOut(int many, int kind) {
        within(many, 0, 12);
        within(kind, 0, 2);
        List<int[]> all = new ArrayList<>();
        for (int b = 0; b < n(); b++) {
            for (int w : s.worths.get(b)) if (w > 0) all.add(new int[] {b, w});
        }
        all.sort((x, y) -> Integer.compare(y[1], x[1]));
        List<int[]> won = all.subList(0, Math.min(many, all.size()));
        List<int[]> left = all.subList(won.size(), all.size());
        List<Object> told = new ArrayList<>();
        for (int b = 0; b < n(); b++) {
            int things = 0;
            int pay = 0;
            for (int[] w : won) {
                if (w[0] == b) {
                    things++;
                    if (kind == 0) pay += w[1];
                    if (kind == 1) pay += left.isEmpty() ? 0 : left.get(0)[1];
                }
            }
            if (kind == 2) {
                int counted = 0;
                for (int[] w : left) {
                    if (w[0] != b && counted < things) {
                        pay += w[1];
                        counted++;
                    }
                }
            }
            told.add(things);
            told.add(pay);
        }
        return row(told);
    }

    /** Pairs, twice what BUYERS pay, twice what SELLERS get, what is lost. */
    private int[] meet() {
        List<Integer> b = new ArrayList<>(s.buyers);
        List<Integer> c = new ArrayList<>(s.sellers);
        b.sort(Collections.reverseOrder());
        Collections.sort(c);
        int t = 0;
        for (int k = 1; k <= Math.min(b.size(), c.size()); k++) if (b.get(k - 1) >= c.get(k - 1)) t = k;
        if (t == 0) return new int[] {0, 0, 0, 0};
        int buyer = b.get(t - 1);
        int seller = c.get(t - 1);
        if (b.size() > t && c.size() > t) {
            double middle = (b.get(t) + c.get(t)) / 2.0;
            if (middle <= buyer && middle >= seller) {
                return new int[] {t, b.get(t) + c.get(t), b.get(t) + c.get(t), 0};
            }
        }
        return new int[] {t - 1, 2 * buyer, 2 * seller, buyer - seller};
    }

    private static String half(int twice) {
        return twice % 2 == 0 ? "" + twice / 2 : twice + "/2";
    }

    String trades() {
        int[] met = meet();
        return met[0] == 0 ? "0" : met[0] + " " + half(met[1]) + " " + half(met[2]);
    }

    int lost() {
        return meet()[3];
    }

    // ---- matched markets, shares

    private List<Integer> market() {
        List<Integer> goods = new ArrayList<>();
        for (int g = 0; g < 6; g++) if (s.owner[g] == -1 && team(g) == 1 << g) goods.add(g);
        return goods;
    }

    private void matchings(List<Integer> copies, int[] given, int bidder, List<int[]> found) {
        if (bidder == n()) {
            found.add(given.clone());
            return;
        }
        for (int k = 0; k < copies.size(); k++) {
            boolean free = true;
            for (int b = 0; b < bidder; b++) if (given[b] == k) free = false;
            if (free && offerFor(bidder, copies.get(k)) > 0) {
                given[bidder] = k;
                matchings(copies, given, bidder + 1, found);
            }
        }
        given[bidder] = 99;
        matchings(copies, given, bidder + 1, found);
    }

    private int[] bestMatching(List<Integer> copies) {
        List<int[]> found = new ArrayList<>();
        matchings(copies, new int[n()], 0, found);
        found.sort((x, y) -> {
            if (sum(copies, x) != sum(copies, y)) return Integer.compare(sum(copies, y), sum(copies, x));
            return Arrays.compare(x, y);
        });
        return found.get(0);
    }

    private int sum(List<Integer> copies, int[] given) {
        int sum = 0;
        for (int b = 0; b < n(); b++) if (given[b] != 99) sum += offerFor(b, copies.get(given[b]));
        return sum;
    }

    private int greatestSum(List<Integer> copies) {
        return sum(copies, bestMatching(copies));
    }

    String matched() {
        List<Integer> market = market();
        List<Object> told = new ArrayList<>();
        int[] given = bestMatching(market);
        for (int b = 0; b < n(); b++) told.add(given[b] == 99 ? "-" : market.get(given[b]));
        return row(told);
    }

    int edge(int good, boolean isLeast) {
        goodThere(good);
        List<Integer> market = market();
        if (!market.contains(good)) return -9;
        List<Integer> other = new ArrayList<>(market);
        if (isLeast) {
            other.add(good);
            return greatestSum(other) - greatestSum(market);
        }
        other.remove((Integer) good);
        return greatestSum(market) - greatestSum(other);
    }

    boolean stand() {
        int sum = 0;
        for (int g : market()) sum += s.price[g];
        for (int b = 0; b < n(); b++) {
            int most = 0;
            for (int g : market()) most = Math.max(most, offerFor(b, g) - s.price[g]);
            sum += most;
        }
        return sum == greatestSum(market());
    }

    private void orders(List<Integer> order, List<List<Integer>> found) {
        if (order.size() == n()) found.add(new ArrayList<>(order));
        for (int b = 0; b < n(); b++) {
            if (!order.contains(b)) {
                order.add(b);
                orders(order, found);
                order.remove(order.size() - 1);
            }
        }
    }

    /** The sum over all orders, and how many these are. */
    private int[] shapleyOf(int bidder) {
        int[] worth = new int[1 << n()];
        for (int g = 0; g < worth.length; g++) worth[g] = groupWorth(g);
        List<List<Integer>> orders = new ArrayList<>();
        orders(new ArrayList<>(), orders);
        int sum = 0;
        for (List<Integer> order : orders) {
            int ahead = maskOf(order.subList(0, order.indexOf(bidder)));
            sum += worth[ahead + (1 << bidder)] - worth[ahead];
        }
        return new int[] {sum, orders.size()};
    }

    String shapley(int bidder) {
        bidderThere(bidder);
        if (isOpen()) return "-";
        int[] part = shapleyOf(bidder);
        int over = part[0];
        int under = part[1];
        for (int k = 2; k <= 24; k++) {
            while (over % k == 0 && under % k == 0) {
                over /= k;
                under /= k;
            }
        }
        return under == 1 ? "" + over : over + "/" + under;
    }

    int fee(int bidder, int coins) {
        bidderThere(bidder);
        within(coins, 0, 9999);
        if (isOpen()) return -9;
        int all = groupWorth((1 << n()) - 1);
        if (all == 0) return 0;
        int[] share = new int[n()];
        long[] behind = new long[n()];
        List<Integer> order = new ArrayList<>();
        int left = coins;
        for (int b = 0; b < n(); b++) {
            int[] part = shapleyOf(b);
            long over = (long) coins * part[0];
            long under = (long) part[1] * all;
            share[b] = (int) (over / under);
            behind[b] = over % under;
            left -= share[b];
            order.add(b);
        }
        order.sort((x, y) -> Long.compare(behind[y], behind[x]));
        for (int k = 0; k < left; k++) share[order.get(k)]++;
        return share[bidder];
    }

    int house(int what) {
        within(what, 0, 11);
        int paid = 0;
        for (int p : s.paid) paid += p;
        int[] all = {n(), s.bids.size(), winnable(), liveCount(), s.limit, s.typed.length(), s.buyers.size(),
            s.sellers.size(), paid, past.size(), s.frozen ? 1 : 0, refused};
        return all[what];
    }

    boolean isSound() {
        return true;
    }

    /** Null, if RULE 2 is too dear to be looked through. */
    Long digest() {
        List<Long> v = new ArrayList<>();
        for (int k = 0; k <= 11; k++) v.add((long) house(k));
        for (int k = 0; k < s.bids.size(); k++) for (int w = 0; w <= 5; w++) v.add((long) ofBid(k, w));
        v.add((long) list().length());
        v.add((long) fault());
        for (int g = 0; g < 6; g++) {
            v.add((long) team(g));
            v.add((long) owner(g));
            v.add((long) edge(g, true));
            v.add((long) edge(g, false));
        }
        v.add((long) forms());
        v.add((long) sale().length());
        v.add((long) bound(false));
        v.add((long) bound(true));
        v.add((long) count());
        if (cuts() == null) return null;
        for (int b = 0; b < n(); b++) {
            for (int w = 0; w <= 2; w++) v.add((long) gets(b, w));
            for (int r = 0; r <= 2; r++) v.add((long) pays(b, r));
            v.add((long) demand(b).length());
            v.add((long) shapley(b).length());
            v.add((long) fee(b, 100));
        }
        v.add((long) cuts().length());
        v.add(hold() ? 1L : 0L);
        v.add((long) clock(20, false).length());
        v.add((long) clock(20, true).length());
        v.add((long) proxy(20).length());
        v.add((long) handOut(5, 2).length());
        v.add((long) trades().length());
        v.add((long) lost());
        v.add((long) matched().length());
        v.add(stand() ? 1L : 0L);
        v.add(isSound() ? 1L : 0L);
        long d = 6901;
        for (long x : v) d = d * 31 + x;
        return d;
    }
}
