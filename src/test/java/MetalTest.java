/** Promises 1 to 7. */
final class MetalTest {
    private MetalTest() {
    }

    public static void main(String[] args) {
        promise1NewObject();
        promise2Buy();
        promise2StockLimit();
        promise3Charge();
        promise4Scrap();
        promise4ShavingsBurn();
        promise4BurnAwayWholeLot();
        promise4Limit();
        promise5Lot();
        promise5MixedWithLatest();
        promise6Melt();
        promise7Set();
        Due.end();
    }

    private static void promise1NewObject() {
        BellFoundry f = new BellFoundry();
        for (int what = 0; what <= 9; what++) {
            Due.due("new: count(" + what + ")", f.count(what), 0);
        }
        int[] first = {5, 20, 180, 260, 50, 6, 2000};
        for (int i = 0; i < first.length; i++) {
            Due.due("new: count(" + (20 + i) + ")", f.count(20 + i), first[i]);
        }
        for (int what = 0; what <= 6; what++) {
            Due.due("new: account(0, " + what + ")", f.account(0, what), 0);
            Due.due("new: account(1, " + what + ")", f.account(1, what), 0);
        }
        for (int what = 0; what <= 5; what++) {
            Due.due("new: melt(" + what + ")", f.melt(what), 0);
        }
        Due.due("new: lot(0, 0)", f.lot(0, 0), -1);
        Due.due("new: bell(0, 0)", f.bell(0, 0), -1);
        Due.due("new: orderOf(0, 0)", f.orderOf(0, 0), -1);
        Due.due("new: wagons(0)", f.wagons(0), 0);
        Due.due("new: undo()", f.undo(), -2);
    }

    private static void promise2Buy() {
        BellFoundry f = new BellFoundry();
        Due.due("buy(0, 1)", f.buy(0, 1), 1);
        Due.due("buy(0, 100000)", f.buy(0, 100000), 100001);
        Due.due("buy(1, 7)", f.buy(1, 7), 7);
        Due.due("buy(-1, 1)", f.buy(-1, 1), -1);
        Due.due("buy(2, 1)", f.buy(2, 1), -1);
        Due.due("buy(0, 0)", f.buy(0, 0), -1);
        Due.due("buy(0, -5)", f.buy(0, -5), -1);
        Due.due("buy(0, 100001)", f.buy(0, 100001), -1);
        Due.due("buy(0, greatest)", f.buy(0, Integer.MAX_VALUE), -1);
        Due.due("account(0, 0)", f.account(0, 0), 100001);
        Due.due("account(0, 1)", f.account(0, 1), 100001);
        Due.due("account(1, 1)", f.account(1, 1), 7);
        Due.due("count(8)", f.count(8), 3);
    }

    private static void promise2StockLimit() {
        BellFoundry f = new BellFoundry();
        for (int i = 1; i <= 9; i++) {
            f.buy(1, 100000);
        }
        Due.due("buy to the limit but one", f.buy(1, 99999), 999999);
        Due.due("buy beyond the limit", f.buy(1, 2), -3);
        Due.due("buy of what is invalid beyond the limit", f.buy(1, 0), -1);
        Due.due("buy to the limit", f.buy(1, 1), 1000000);
        Due.due("buy at the limit", f.buy(1, 1), -3);
        Due.due("the other metal has a limit of its own", f.buy(0, 3), 3);
        Due.due("what was bought", f.account(1, 0), 1000000);
    }

    private static void promise3Charge() {
        BellFoundry f = new BellFoundry();
        f.buy(0, 30000);
        f.buy(1, 500);
        Due.due("charge(0, 600)", f.charge(0, 600), 600);
        Due.due("charge(1, 500)", f.charge(1, 500), 1100);
        Due.due("charge(1, 1)", f.charge(1, 1), -2);
        Due.due("charge(2, 1)", f.charge(2, 1), -1);
        Due.due("charge(-1, 1)", f.charge(-1, 1), -1);
        Due.due("charge(0, 0)", f.charge(0, 0), -1);
        Due.due("charge(0, 20001)", f.charge(0, 20001), -1);
        Due.due("charge(1, 20000), too little and too much", f.charge(1, 20000), -2);
        Due.due("charge(0, 18901)", f.charge(0, 18901), -3);
        Due.due("charge(0, 18900)", f.charge(0, 18900), 20000);
        Due.due("charge(0, 1)", f.charge(0, 1), -3);
        Due.due("stock", f.account(0, 1), 10500);
        Due.due("stock of tin", f.account(1, 1), 0);
        Due.due("melt of copper", f.melt(0), 19500);
        Due.due("melt of tin", f.melt(1), 500);
        BellFoundry full = new BellFoundry();
        full.buy(0, 20000);
        Due.due("charge(0, 20000)", full.charge(0, 20000), 20000);
    }

    private static void promise4Scrap() {
        BellFoundry f = Foundries.withoutBurn(8000, 2000);
        f.pour(0, 1000);
        f.pour(1, 200);
        f.smash(0);
        f.set(0, 50);
        f.set(1, 100);
        Due.due("scrap(3)", f.scrap(3), -1);
        Due.due("scrap(-1)", f.scrap(-1), -1);
        Due.due("the melt", f.melt(2), 8740);
        Due.due("scrap(1), a sprue", f.scrap(1), 8750);
        Due.due("the other lots close up", f.lot(1, 4), 2);
        Due.due("scrap(1), a broken bell", f.scrap(1), 9750);
        Due.due("neither burns", f.account(0, 6) + f.account(1, 6), 0);
        Due.due("lots left", f.count(0), 1);
        Due.due("scrap(0)", f.scrap(0), 9800);
        Due.due("copper", f.melt(0), 7840);
        Due.due("tin", f.melt(1), 1960);
        Due.due("scrap(0) without a lot", f.scrap(0), -1);
    }

    private static void promise4ShavingsBurn() {
        BellFoundry f = Foundries.withoutBurn(8000, 2000);
        f.pour(0, 1000);
        f.tune(0, 50);
        f.set(0, 10);
        f.set(1, 25);
        Due.due("shavings: copper", f.lot(1, 0), 40);
        Due.due("shavings: tin", f.lot(1, 1), 10);
        // Of 40 * 10 / 1000 and of 10 * 25 / 1000 a pound each is lost; the melt of 8950 does not burn.
        Due.due("scrap of shavings", f.scrap(1), 8998);
        Due.due("slag of copper", f.account(0, 6), 1);
        Due.due("slag of tin", f.account(1, 6), 1);
        Due.due("copper", f.melt(0), 7160 + 39);
        Due.due("tin", f.melt(1), 1790 + 9);
    }

    private static void promise4BurnAwayWholeLot() {
        BellFoundry f = Foundries.withoutBurn(8000, 2000);
        f.pour(0, 1000);
        f.tune(0, 1);
        f.set(0, 50);
        f.set(1, 100);
        Due.due("a pound of shavings", f.lot(1, 2), 1);
        Due.due("burns away", f.scrap(1), 8950);
        Due.due("as slag", f.account(0, 6) + f.account(1, 6), 1);
        Due.due("and is no lot any more", f.count(0), 1);
    }

    private static void promise4Limit() {
        BellFoundry f = Foundries.withoutBurn(8000, 2000);
        f.pour(0, 1000);
        f.tune(0, 100);
        f.buy(0, 20000);
        f.charge(0, 10951);
        Due.due("weight of the melt", f.melt(2), 19901);
        f.set(0, 50);
        f.set(1, 100);
        Due.due("too heavy without any burn", f.scrap(1), -3);
        Due.due("no such lot ahead of the limit", f.scrap(2), -1);
        Due.due("nothing burnt", f.account(0, 6) + f.account(1, 6), 0);
        Due.due("a lighter lot", f.scrap(0), 19951);
        f.undo();
        f.undo();
        f.undo();
        f.undo();
        f.charge(0, 10950);
        Due.due("just light enough", f.scrap(1), 20000);
    }

    private static void promise5Lot() {
        BellFoundry f = Foundries.withoutBurn(8000, 2000);
        f.pour(0, 1000);
        f.tune(0, 10);
        f.smash(0);
        int[][] due = {{40, 10, 50, 200, 0}, {8, 2, 10, 200, 1}, {792, 198, 990, 200, 2}};
        for (int lot = 0; lot < 3; lot++) {
            for (int what = 0; what <= 4; what++) {
                Due.due("lot(" + lot + ", " + what + ")", f.lot(lot, what), due[lot][what]);
            }
        }
        Due.due("lot(3, 0)", f.lot(3, 0), -1);
        Due.due("lot(-1, 0)", f.lot(-1, 0), -1);
        Due.due("lot(0, -1)", f.lot(0, -1), -1);
        Due.due("lot(0, 5)", f.lot(0, 5), -1);
        Due.due("lot(least, greatest)", f.lot(Integer.MIN_VALUE, Integer.MAX_VALUE), -1);
    }

    private static void promise5MixedWithLatest() {
        BellFoundry f = Foundries.withoutBurn(8000, 2000);
        f.pour(0, 1000);
        for (int i = 1; i <= 11; i++) {
            f.tune(0, i);
        }
        Due.due("twelve lots", f.count(0), 12);
        Due.due("the latest one", f.lot(11, 2), 11);
        f.smash(0);
        Due.due("still twelve", f.count(0), 12);
        Due.due("the bell is mixed with the latest one", f.lot(11, 2), 11 + 1000 - 66);
        Due.due("whose kind remains", f.lot(11, 4), 1);
        Due.due("the oldest one is as it was", f.lot(0, 2), 50);
        f.scrap(0);
        f.pour(0, 100);
        Due.due("a new one comes when there are eleven", f.lot(11, 2), 5);
        Due.due("with its own kind", f.lot(11, 4), 0);
        Due.due("behind the others", f.lot(10, 2), 945);
    }

    private static void promise6Melt() {
        BellFoundry f = Foundries.withMelt(801, 201);
        int[] due = {801, 201, 1002, 200, 796 + 196, 197};
        for (int what = 0; what <= 5; what++) {
            // The burn takes 4.005 and 4.02 pounds: 5 of each.
            Due.due("melt(" + what + ")", f.melt(what), due[what]);
        }
        Due.due("asked twice", f.melt(4), 992);
        Due.due("melt(-1)", f.melt(-1), -1);
        Due.due("melt(6)", f.melt(6), -1);
        f.set(0, 0);
        Due.due("without burn of copper", f.melt(4), 997);
        f.set(1, 0);
        Due.due("without burn of tin", f.melt(4), 1002);
        BellFoundry even = Foundries.withMelt(800, 200);
        Due.due("no rounding where it comes out even", even.melt(4), 800 - 4 + 200 - 4);
        BellFoundry tiny = Foundries.withMelt(0, 1);
        Due.due("all of it burns", tiny.melt(4), 0);
        Due.due("no alloy without weight", tiny.melt(5), 0);
        Due.due("alloy of tin alone", tiny.melt(3), 1000);
    }

    private static void promise7Set() {
        int[] least = {0, 0, 0, 0, 0, 1, 1};
        int[] most = {50, 100, 1000, 1000, 300, 50, 20000};
        int[] first = {5, 20, 180, 260, 50, 6, 2000};
        for (int what = 0; what <= 6; what++) {
            BellFoundry f = new BellFoundry();
            Due.due("set(" + what + ", least - 1)", f.set(what, least[what] - 1), -1);
            Due.due("set(" + what + ", most + 1)", f.set(what, most[what] + 1), -1);
            Due.due("no change", f.count(8), 0);
            Due.due("set(" + what + ", least)", f.set(what, least[what]), first[what]);
            Due.due("set(" + what + ", most)", f.set(what, most[what]), least[what]);
            Due.due("set(" + what + ", most) again", f.set(what, most[what]), most[what]);
            Due.due("three changes", f.count(8), 3);
            Due.due("the setting", f.count(20 + what), most[what]);
            for (int other = 0; other <= 6; other++) {
                if (other != what) {
                    Due.due("another setting", f.count(20 + other), first[other]);
                }
            }
        }
        BellFoundry f = new BellFoundry();
        Due.due("set(-1, 1)", f.set(-1, 1), -1);
        Due.due("set(7, 1)", f.set(7, 1), -1);
        Due.due("set(greatest, 1)", f.set(Integer.MAX_VALUE, 1), -1);
    }
}
