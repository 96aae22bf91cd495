/** Two bidders and three goods; behind each line that prints stands what it prints. */
public final class Shop {
    public static void main(String[] args) {
        Bundlesale house = new Bundlesale();
        int anna = house.bidder(0);                      // FORM 0: wants one of her bids
        int bert = house.bidder(1);                      // FORM 1: wants as many of his as fit
        house.bid(anna, 3, 30);                          // goods 0 and 1 (1 + 2) together are worth 30 to her
        house.bid(anna, 4, 8);                           // good 2 alone
        house.bid(bert, 1, 20);
        house.bid(bert, 2, 15);
        System.out.println(house.list());                // 0:01=30;0:2=8;1:0=20;1:1=15
        System.out.println(house.sale());                // 1 2 3
        System.out.println(house.bound(false));          // 43
        System.out.println(house.gets(bert, 0));         // 3
        System.out.println(house.pays(bert, 1));         // 22
        System.out.println(house.shapley(anna));         // 19
        System.out.println(house.lie(2, 0));             // 8

        typeBid(house, bert, 2, 9);
        System.out.println(house.typed());               // 1:2=9
        System.out.println(house.enter());               // 1
        System.out.println(house.sale());                // 2 3 4

        System.out.println(house.sell(1));               // 30
        System.out.println(house.owner(2));              // 1
        System.out.println(house.bid(anna, 4, 12));      // -9
        System.out.println(house.undo());                // 8
        System.out.println(house.owner(2));              // -1
        try {
            house.bid(anna, 0, 12);
        } catch (IllegalArgumentException refused) {
            System.out.println("refused");               // refused
        }
    }

    /** Types "bidder:good=value" by the codes of its signs: 10 is ":", 11 is "=", -1 is no sign. */
    private static void typeBid(Bundlesale house, int bidder, int good, int digit) {
        house.say(bidder, 10, good, 11, digit, -1);
    }
}
