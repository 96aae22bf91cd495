/** All that can be asked of a house, as one text: two are the same if nothing was changed between them. */
final class Snapshot {
    private Snapshot() {
    }

    static String of(Bundlesale x) {
        StringBuilder text = new StringBuilder();
        text.append(x.digest()).append(' ').append(x.house(9)).append(' ').append(x.house(11));
        text.append(stateOf(x));
        if (x.house(9) < 40) {
            addWhatOnlyCallsTell(x, text);
        }
        return text.toString();
    }

    /** Without how many calls can be undone, and how many were refused. */
    static String stateOf(Bundlesale x) {
        StringBuilder text = new StringBuilder();
        for (int what = 0; what <= 10; what++) {
            text.append(' ').append(what == 9 ? 0 : x.house(what));
        }
        text.append('|').append(x.list()).append('|').append(x.typed()).append('|').append(x.fault());
        text.append('|').append(x.sale()).append('|').append(x.cuts());
        text.append('|').append(x.trades()).append('|').append(x.lost());
        for (int many = 0; many <= 12; many += 3) {
            for (int kind = 0; kind <= 2; kind++) {
                text.append('|').append(x.handOut(many, kind));
            }
        }
        for (int good = 0; good < 6; good++) {
            text.append('|').append(x.team(good)).append(' ').append(x.owner(good));
        }
        for (int bidder = 0; bidder < x.house(0); bidder++) {
            text.append('|').append(x.gets(bidder, 0)).append(' ').append(x.gets(bidder, 1));
            text.append(' ').append(x.gets(bidder, 2)).append(' ').append(x.demand(bidder));
        }
        return text.toString();
    }

    /** Some things are told only by the call that changes them, so it is undone: with 40 calls one would be lost. */
    private static void addWhatOnlyCallsTell(Bundlesale x, StringBuilder text) {
        for (int bidder = 0; bidder < x.house(0); bidder++) {
            text.append('|').append(x.budget(bidder, -1));
            x.undo();
            text.append(' ').append(x.worths(bidder, 0, 0, 0));
            x.undo();
        }
        for (int good = 0; good < 6; good++) {
            text.append('|').append(x.price(good, 0));
            x.undo();
        }
    }
}
