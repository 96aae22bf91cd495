/** Houses to begin with. */
final class Houses {
    private static final int[] CROWD = {1, 2, 4, 8, 16, 32, 3, 12, 48, 5, 10, 36, 24, 6, 33, 63};

    private Houses() {
    }

    /** A house with BIDDERS of these FORMS. */
    static Bundlesale with(int... forms) {
        Bundlesale x = new Bundlesale();
        for (int form : forms) {
            x.bidder(form);
        }
        return x;
    }

    /** 4 BIDDERS, the first of this FORM, 16 BIDS, 8 BUYERS and 8 SELLERS. */
    static Bundlesale crowded(int first) {
        Bundlesale x = with(first, 1 - first, first, 1 - first);
        for (int k = 0; k < 16; k++) {
            x.bid(k % 4, CROWD[k], 20 + Integer.bitCount(CROWD[k]) * 10 + k % 5);
        }
        for (int k = 0; k < 8; k++) {
            x.offer(true, 999 - 50 * k);
            x.offer(false, 100 + 60 * k);
        }
        for (int k = 0; k < 4; k++) {
            x.worths(k, 99 - k, 90 - k, 80 - k);
        }
        return x;
    }

    /** 60 signs and 40 calls that can be undone, too. */
    static Bundlesale full() {
        Bundlesale x = crowded(0);
        for (int k = 0; k < 10; k++) {
            x.say(0, 10, 5, 11, 9, 12);
        }
        return x;
    }

    /** So many BIDS of BIDDER 0, on bundles 1, 2, 3 and on, of the VALUE 10. */
    static Bundlesale withBids(int many, int... forms) {
        Bundlesale x = with(forms);
        for (int k = 0; k < many; k++) {
            x.bid(0, k + 1, 10);
        }
        return x;
    }

    /** A house with BIDDERS of these FORMS, a digit each, and the BIDS of this list. */
    static Bundlesale read(String forms, String list) {
        Bundlesale x = new Bundlesale();
        for (char form : forms.toCharArray()) {
            x.bidder(form - '0');
        }
        for (String piece : list.split(";")) {
            int to = piece.indexOf('=');
            int bundle = 0;
            for (char good : piece.substring(2, to).toCharArray()) {
                bundle |= 1 << good - '0';
            }
            x.bid(piece.charAt(0) - '0', bundle, Integer.parseInt(piece.substring(to + 1)));
        }
        return x;
    }

    /** Makes TYPED just this text. */
    static void type(Bundlesale x, String text) {
        x.say(14, -1, -1, -1, -1, -1);
        for (char sign : text.toCharArray()) {
            x.say("0123456789:=;".indexOf(sign), -1, -1, -1, -1, -1);
        }
    }
}
