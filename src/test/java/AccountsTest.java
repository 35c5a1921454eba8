import java.util.ArrayList;
import java.util.List;

/** Promises 19 to 21. */
final class AccountsTest {
    private AccountsTest() {
    }

    public static void main(String[] args) {
        promise19Account();
        promise20Count();
        promise20SentAndSmashed();
        promise21Undo();
        promise21LotsComeBack();
        promise21EachChange();
        promise21NoChange();
        promise21TextRemains();
        promise21FourStates();
        Due.end();
    }

    /** Two bells are sent and smashed, one is tuned, one cracks; a lot of shavings burns. */
    private static BellFoundry eventful() {
        BellFoundry f = new BellFoundry();
        f.buy(0, 9000);
        f.buy(1, 2500);
        f.charge(0, 8000);
        f.charge(1, 2100);
        for (int i = 0; i < 4; i++) {
            f.pour(i, 700);
        }
        f.order(0, f.bell(0, 5), 5);
        f.order(1, 3000, 5);
        f.order(1, 3001, 5);
        f.send(0, 0);
        f.cancel(1);
        f.smash(1);
        f.tune(2, 40);
        f.tune(3, 12);
        f.scrap(6);
        return f;
    }

    private static void promise19Account() {
        BellFoundry f = eventful();
        Due.due("copper bought", f.account(0, 0), 9000);
        Due.due("tin bought", f.account(1, 0), 2500);
        Due.due("stock of copper", f.account(0, 1), 1000);
        Due.due("stock of tin", f.account(1, 1), 400);
        for (int metal = 0; metal <= 1; metal++) {
            int lots = 0;
            for (int i = 0; i < f.count(0); i++) {
                lots += f.lot(i, metal);
            }
            int sum = 0;
            for (int what = 1; what <= 6; what++) {
                Due.holds("something of each account", f.account(metal, what) > 0);
                sum += f.account(metal, what);
            }
            Due.due("they add up", sum, f.account(metal, 0));
            Due.due("in the melt", f.account(metal, 2), f.melt(metal));
            Due.due("in scrap", f.account(metal, 3), lots);
            Due.due("in bells", f.account(metal, 4), f.bell(2, metal) + f.bell(3, metal));
            Due.due("in sent bells", f.account(metal, 5), f.bell(0, metal));
        }
        Due.due("account(2, 0)", f.account(2, 0), -1);
        Due.due("account(-1, 0)", f.account(-1, 0), -1);
        Due.due("account(0, 7)", f.account(0, 7), -1);
        Due.due("account(0, -1)", f.account(0, -1), -1);
    }

    private static void promise20Count() {
        BellFoundry f = eventful();
        Foundries.write(f, "(2,3)");
        int[] due = {6, 4, 2, 1, 1, 3, 1, 1, 4, 5};
        for (int what = 0; what <= 9; what++) {
            Due.due("count(" + what + ")", f.count(what), due[what]);
        }
        for (int what = 10; what < 20; what++) {
            Due.due("count(" + what + ")", f.count(what), -1);
        }
        Due.due("count(-1)", f.count(-1), -1);
        Due.due("count(27)", f.count(27), -1);
        Due.due("count(greatest)", f.count(Integer.MAX_VALUE), -1);
        for (int what = 0; what <= 6; what++) {
            f.set(what, 40 + what);
        }
        for (int what = 0; what <= 6; what++) {
            Due.due("count(" + (20 + what) + ")", f.count(20 + what), 40 + what);
        }
    }

    private static void promise20SentAndSmashed() {
        BellFoundry f = Foundries.withoutBurn(8000, 2000);
        for (int i = 0; i < 6; i++) {
            f.pour(0, 1000);
        }
        f.order(0, 950, 0);
        f.smash(0);
        f.smash(1);
        f.send(2, 0);
        f.tune(3, 101);
        Due.due("remaining", f.count(2), 3);
        Due.due("cracked", f.count(3), 1);
        Due.due("sent", f.count(4), 1);
        f.smash(3);
        Due.due("a cracked one that is smashed does not count", f.count(3), 0);
        Due.due("copper in bells", f.account(0, 4), 1600);
        Due.due("copper in sent bells", f.account(0, 5), 800);
    }

    private static void promise21LotsComeBack() {
        BellFoundry f = Foundries.withoutBurn(8000, 2000);
        f.pour(0, 1000);
        f.tune(0, 10);
        f.pour(0, 100);
        f.tune(0, 3);
        int[] kinds = {0, 1, 0, 1};
        int[] weights = {50, 10, 5, 3};
        f.scrap(0);
        f.scrap(2);
        f.scrap(0);
        f.undo();
        f.undo();
        f.undo();
        Due.due("lots", f.count(0), 4);
        for (int lot = 0; lot < 4; lot++) {
            Due.due("kind of lot " + lot, f.lot(lot, 4), kinds[lot]);
            Due.due("weight of lot " + lot, f.lot(lot, 2), weights[lot]);
        }
    }

    private static void promise21Undo() {
        BellFoundry f = new BellFoundry();
        Due.due("undo of nothing", f.undo(), -2);
        f.buy(0, 5);
        f.buy(0, 6);
        Due.due("undo", f.undo(), 1);
        Due.due("the stock", f.account(0, 1), 5);
        Due.due("what was bought", f.account(0, 0), 5);
        f.buy(0, 7);
        Due.due("a change behind it", f.count(8), 2);
        Due.due("undo", f.undo(), 1);
        Due.due("undo", f.undo(), 0);
        Due.due("nothing is left", f.account(0, 1), 0);
        Due.due("undo of nothing", f.undo(), -2);
    }

    /** Each kind of change is recorded, and undone as a whole. */
    private static void promise21EachChange() {
        int changes = 10;
        for (int change = 0; change < changes; change++) {
            BellFoundry f = eventful();
            String before = Foundries.view(f);
            int answer = switch (change) {
                case 0 -> f.buy(1, 50);
                case 1 -> f.charge(0, 50);
                case 2 -> f.scrap(5);
                case 3 -> f.pour(0, 600);
                case 4 -> f.tune(3, 5);
                case 5 -> f.smash(2);
                case 6 -> f.order(3, f.bell(3, 5), 0);
                case 7 -> f.cancel(2);
                case 8 -> f.set(4, 33);
                default -> f.order(3, f.bell(3, 5), 0) + f.send(3, 3);
            };
            Due.holds("change " + change + " is made", answer >= 0);
            Due.holds("change " + change + " is seen", !before.equals(Foundries.view(f)));
            if (change == 9) {
                f.undo();
            }
            Due.due("change " + change + " is undone", f.undo(), change == 9 ? 2 : 3);
            Due.holds("change " + change + " leaves no trace", before.equals(Foundries.view(f)));
        }
    }

    private static void promise21NoChange() {
        BellFoundry f = eventful();
        f.undo();
        f.undo();
        String before = Foundries.view(f);
        List<Integer> answers = new ArrayList<>(List.of(f.buy(0, 0), f.charge(1, 401), f.scrap(99), f.set(7, 0), f.set(0, 51)));
        answers.addAll(List.of(f.pour(0, 10000), f.tune(0, 1), f.smash(1), f.order(0, 0, 0), f.cancel(0), f.send(0, 0), f.send(2, 2)));
        for (int answer : answers) {
            Due.holds("an error", answer < 0);
        }
        f.wagons(1);
        f.tuneFor(3, 2);
        f.pourFor(2);
        Due.due("errors and questions are no changes", f.count(8), 2);
        Due.holds("and change nothing", before.equals(Foundries.view(f)));
        f.type(40);
        f.clearText();
        Due.due("nor are type and clearText changes", f.count(8), 2);
    }

    private static void promise21TextRemains() {
        BellFoundry f = new BellFoundry();
        f.type(40);
        f.buy(0, 1);
        f.type(41);
        Due.due("undo", f.undo(), 0);
        Due.due("the text remains", f.count(9), 2);
    }

    private static void promise21FourStates() {
        BellFoundry f = new BellFoundry();
        for (int i = 1; i <= 6; i++) {
            f.buy(0, i);
            Due.due("states", f.count(8), Math.min(i, 4));
        }
        int[] left = {15, 10, 6, 3};
        for (int i = 0; i < 4; i++) {
            Due.due("undo", f.undo(), 3 - i);
            Due.due("stock", f.account(0, 1), left[i]);
        }
        Due.due("older ones are dropped", f.undo(), -2);
        Due.due("stock", f.account(0, 1), 3);
    }
}
