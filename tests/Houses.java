/** Houses to begin with. */
final class Houses {
    private Houses() {
    }

    /** A house with BIDDERS of these FORMS. */
    static Bundlesale with(int... forms) {
        Bundlesale x = new Bundlesale();
        for (int form : forms) {
            x.bidder(form);
        }
        return x;
    }

    /** Makes TYPED just this text. */
    static void type(Bundlesale x, String text) {
        x.say(14, -1, -1, -1, -1, -1);
        for (char sign : text.toCharArray()) {
            x.say("0123456789:=;".indexOf(sign), -1, -1, -1, -1, -1);
        }
    }
}
