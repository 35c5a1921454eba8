/** Foundries in which something has happened already. */
final class Foundries {
    static final int COPPER = 0;
    static final int TIN = 1;
    static final int CHURCH = 0;
    static final int SHIP = 1;
    static final int HAND = 2;
    static final int CLOCK = 3;

    private Foundries() {
    }

    /** With so much metal in the melt, and none in the stock. */
    static BellFoundry withMelt(int copper, int tin) {
        BellFoundry foundry = new BellFoundry();
        addMelt(foundry, copper, tin);
        return foundry;
    }

    /** The same, but nothing burns, which makes the numbers easy. */
    static BellFoundry withoutBurn(int copper, int tin) {
        BellFoundry foundry = withMelt(copper, tin);
        foundry.set(0, 0);
        foundry.set(1, 0);
        return foundry;
    }

    static void addMelt(BellFoundry foundry, int copper, int tin) {
        if (copper > 0) {
            foundry.buy(COPPER, copper);
            foundry.charge(COPPER, copper);
        }
        if (tin > 0) {
            foundry.buy(TIN, tin);
            foundry.charge(TIN, tin);
        }
    }

    static void write(BellFoundry foundry, String text) {
        foundry.clearText();
        for (char sign : text.toCharArray()) {
            foundry.type(sign);
        }
    }

    /** All that can be asked, but for the frame's text, as one text. */
    static String view(BellFoundry f) {
        StringBuilder view = new StringBuilder();
        for (int what = 0; what <= 26; what++) {
            if (what != 8 && what != 9) {
                view.append(f.count(what)).append(' ');
            }
        }
        for (int what = 0; what <= 6; what++) {
            view.append(f.account(COPPER, what)).append(' ').append(f.account(TIN, what)).append(' ');
        }
        for (int what = 0; what <= 5; what++) {
            view.append(f.melt(what)).append(' ');
        }
        for (int lot = 0; lot < f.count(0); lot++) {
            for (int what = 0; what <= 4; what++) {
                view.append(f.lot(lot, what)).append(' ');
            }
        }
        for (int bell = 0; bell < f.count(1); bell++) {
            for (int what = 0; what <= 9; what++) {
                view.append(f.bell(bell, what)).append(' ');
            }
        }
        for (int order = 0; order < f.count(5); order++) {
            for (int what = 0; what <= 5; what++) {
                view.append(f.orderOf(order, what)).append(' ');
            }
        }
        return view.toString();
    }
}
