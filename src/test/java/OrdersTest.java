/** Promises 12 to 18. */
final class OrdersTest {
    private OrdersTest() {
    }

    public static void main(String[] args) {
        promise12Order();
        promise12Hundred();
        promise13Cancel();
        promise14Send();
        promise14Errors();
        promise15OrderOf();
        promise15Fits();
        promise16TuneFor();
        promise16CrackAndWeight();
        promise17PourFor();
        promise17ByRootAndAlloy();
        promise17ByTheMeltAlone();
        promise17AgainstPouring();
        promise18Wagons();
        promise18FewestOfAll();
        Due.end();
    }

    private static void promise12Order() {
        BellFoundry f = new BellFoundry();
        Due.due("order(-1, 1, 0)", f.order(-1, 1, 0), -1);
        Due.due("order(4, 1, 0)", f.order(4, 1, 0), -1);
        Due.due("order(0, 0, 0)", f.order(0, 0, 0), -1);
        Due.due("order(0, 20001, 0)", f.order(0, 20001, 0), -1);
        Due.due("order(0, 1, -1)", f.order(0, 1, -1), -1);
        Due.due("order(0, 1, 501)", f.order(0, 1, 501), -1);
        Due.due("order(0, 1, 0)", f.order(0, 1, 0), 0);
        Due.due("order(3, 20000, 500)", f.order(3, 20000, 500), 1);
        for (int i = 2; i < 8; i++) {
            Due.due("order", f.order(1, 100, 5), i);
        }
        Due.due("a ninth open one", f.order(1, 100, 5), -3);
        Due.due("a ninth that is invalid", f.order(1, 100, 501), -1);
        f.cancel(0);
        Due.due("when one is cancelled", f.order(1, 100, 5), 8);
        Due.due("again too many", f.order(1, 100, 5), -3);
    }

    private static void promise12Hundred() {
        BellFoundry f = new BellFoundry();
        for (int i = 0; i < 100; i++) {
            Due.due("order", f.order(0, 1 + i, 0), i);
            f.cancel(i);
        }
        Due.due("a hundred and first", f.order(0, 1, 0), -3);
        Due.due("have come", f.count(5), 100);
        Due.due("the last one", f.orderOf(99, 1), 100);
    }

    private static void promise13Cancel() {
        BellFoundry f = Foundries.withoutBurn(8000, 2000);
        f.pour(0, 1000);
        f.order(0, 950, 0);
        f.order(0, 951, 0);
        f.order(0, 952, 0);
        Due.due("cancel(-1)", f.cancel(-1), -1);
        Due.due("cancel(3)", f.cancel(3), -1);
        Due.due("cancel(1)", f.cancel(1), 2);
        Due.due("cancelled before", f.cancel(1), -2);
        f.send(0, 0);
        Due.due("served", f.cancel(0), -2);
        Due.due("cancel(2)", f.cancel(2), 0);
        Due.due("state", f.orderOf(2, 3), 2);
    }

    private static void promise14Send() {
        BellFoundry f = Foundries.withoutBurn(8000, 2000);
        f.pour(0, 1000);
        f.order(0, 940, 10);
        Due.due("send(0, 0)", f.send(0, 0), 1000);
        Due.due("the bell is sent", f.bell(0, 8), 2);
        Due.due("for this order", f.bell(0, 9), 0);
        Due.due("the order is served", f.orderOf(0, 3), 1);
        Due.due("copper in sent bells", f.account(0, 5), 800);
        Due.due("copper in others", f.account(0, 4), 0);
        Due.due("served orders", f.count(7), 1);
        Due.due("open orders", f.count(6), 0);
        f.undo();
        Due.due("the bell is back", f.bell(0, 8), 0);
        Due.due("not sent", f.bell(0, 9), -4);
        f.set(6, 999);
        Due.due("heavier than the load", f.send(0, 0), -2);
        f.set(6, 1000);
        Due.due("as heavy as the load", f.send(0, 0), 1000);
    }

    private static void promise14Errors() {
        BellFoundry f = Foundries.withoutBurn(8000, 2000);
        for (int i = 0; i < 5; i++) {
            f.pour(0, 1000);
        }
        f.order(0, 939, 10);
        f.order(1, 950, 10);
        f.order(0, 950, 10);
        f.order(0, 950, 10);
        f.order(0, 950, 500);
        Due.due("send(5, 0)", f.send(5, 0), -1);
        Due.due("send(-1, 0)", f.send(-1, 0), -1);
        Due.due("send(0, 5)", f.send(0, 5), -1);
        Due.due("send(0, -1)", f.send(0, -1), -1);
        Due.due("pitch too high", f.send(0, 0), -2);
        Due.due("another profile", f.send(0, 1), -2);
        f.cancel(2);
        Due.due("cancelled order", f.send(0, 2), -2);
        Due.due("send(0, 3)", f.send(0, 3), 1000);
        Due.due("served order", f.send(1, 3), -2);
        Due.due("sent bell", f.send(0, 4), -2);
        f.smash(1);
        Due.due("smashed bell", f.send(1, 4), -2);
        f.tune(2, 101);
        Due.due("cracked", f.bell(2, 8), 1);
        Due.due("cracked bell", f.send(2, 4), -2);
        Due.due("invalid ahead of not possible", f.send(1, 9), -1);
        Due.due("a sound one", f.send(3, 4), 1000);
    }

    private static void promise15OrderOf() {
        BellFoundry f = new BellFoundry();
        f.order(2, 345, 67);
        int[] due = {2, 345, 67, 0, -4, 0};
        for (int what = 0; what <= 5; what++) {
            Due.due("orderOf(0, " + what + ")", f.orderOf(0, what), due[what]);
        }
        Due.due("orderOf(0, 6)", f.orderOf(0, 6), -1);
        Due.due("orderOf(0, -1)", f.orderOf(0, -1), -1);
        Due.due("orderOf(1, 0)", f.orderOf(1, 0), -1);
        Due.due("orderOf(-1, 0)", f.orderOf(-1, 0), -1);
    }

    private static void promise15Fits() {
        BellFoundry f = Foundries.withoutBurn(8000, 2000);
        f.pour(1, 1000);
        f.pour(0, 1000);
        f.pour(0, 999);
        f.pour(0, 1000);
        f.pour(0, 1000);
        f.tune(3, 1);
        f.order(0, 960, 10);
        f.order(0, 940, 10);
        f.order(0, 944, 0);
        f.order(1, 1200, 50);
        // The pitches are 1250 of a ship bell, 950, 950 (its alloy is 200), 944 and 950.
        Due.due("from below: lowest", f.orderOf(0, 4), 1);
        Due.due("from below: how many", f.orderOf(0, 5), 3);
        Due.due("from above: how many", f.orderOf(1, 5), 4);
        Due.due("exactly: lowest", f.orderOf(2, 4), 3);
        Due.due("exactly: how many", f.orderOf(2, 5), 1);
        Due.due("the first bell: lowest", f.orderOf(3, 4), 0);
        Due.due("the first bell: how many", f.orderOf(3, 5), 1);
        f.pour(0, 997);
        f.order(0, 951, 0);
        Due.due("it is there", f.orderOf(4, 4), 5);
        f.undo();
        f.undo();
        f.order(0, 951, 0);
        Due.due("it is undone: lowest", f.orderOf(4, 4), -4);
        Due.due("it is undone: how many", f.orderOf(4, 5), 0);
        f.send(1, 0);
        f.smash(2);
        Due.due("without sent and smashed ones: lowest", f.orderOf(1, 4), 3);
        Due.due("without sent and smashed ones: how many", f.orderOf(1, 5), 2);
        f.cancel(1);
        Due.due("a served order too is fitted", f.orderOf(0, 4), 4);
        Due.due("a cancelled order too is fitted", f.orderOf(1, 4), 3);
        f.set(5, 1);
        f.tune(4, 101);
        Due.due("a cracked bell does not fit", f.orderOf(1, 5), 1);
    }

    private static void promise16TuneFor() {
        BellFoundry f = Foundries.withoutBurn(8000, 2000);
        f.pour(0, 1000);
        f.order(0, 960, 10);
        f.order(0, 961, 10);
        f.order(0, 900, 3);
        f.order(0, 899, 0);
        f.order(1, 950, 5);
        f.order(1, 900, 50);
        f.order(0, 896, 0);
        f.order(0, 944, 0);
        Due.due("it fits", f.tuneFor(0, 0), 0);
        Due.due("too low for ever", f.tuneFor(0, 1), -4);
        // By 6 a pound: 950, 944, .. 908, 902, 896.
        Due.due("eight pounds", f.tuneFor(0, 2), 8);
        Due.due("between two pounds", f.tuneFor(0, 3), -4);
        Due.due("another profile that would be near", f.tuneFor(0, 4), -4);
        Due.due("another profile", f.tuneFor(0, 5), -4);
        Due.due("nine pounds", f.tuneFor(0, 6), 9);
        Due.due("one pound", f.tuneFor(0, 7), 1);
        Due.due("nothing is changed", f.bell(0, 2), 1000);
        Due.due("tuneFor(1, 0)", f.tuneFor(1, 0), -1);
        Due.due("tuneFor(0, 8)", f.tuneFor(0, 8), -1);
        Due.due("tuneFor(-1, 0)", f.tuneFor(-1, 0), -1);
        Due.due("tuneFor(0, -1)", f.tuneFor(0, -1), -1);
        f.cancel(2);
        Due.due("for a cancelled order", f.tuneFor(0, 2), 8);
        f.tune(0, 101);
        Due.due("cracked", f.tuneFor(0, 0), -2);
        Due.due("invalid ahead of cracked", f.tuneFor(0, 8), -1);
        f.smash(0);
        Due.due("smashed", f.tuneFor(0, 0), -2);
        f.pour(0, 1000);
        f.send(1, 0);
        Due.due("sent", f.tuneFor(1, 0), -2);
    }

    private static void promise16CrackAndWeight() {
        BellFoundry f = Foundries.withoutBurn(8000, 2000);
        f.pour(0, 1000);
        f.pour(2, 1000);
        f.order(0, 350, 0);
        f.order(0, 344, 0);
        f.order(2, 1250, 0);
        f.order(2, 1244, 0);
        Due.due("by the tenth part", f.tuneFor(0, 0), 100);
        Due.due("cracks by more", f.tuneFor(0, 1), -4);
        Due.due("by the twentieth part", f.tuneFor(1, 2), 50);
        Due.due("cracks by more", f.tuneFor(1, 3), -4);
        f.tune(0, 1);
        // 944 - 6000 * 99 / 999 = 350; one pound has been drawn already.
        Due.due("what was drawn before counts", f.tuneFor(0, 0), 99);
        BellFoundry heavy = Foundries.withoutBurn(15200, 3800);
        heavy.set(6, 20000);
        heavy.pour(0, 10000);
        heavy.order(0, heavy.bell(0, 5) - 300, 0);
        heavy.order(0, 1, 0);
        heavy.set(5, 3);
        Due.due("by 1000 pounds", heavy.tuneFor(0, 0), 1000);
        Due.due("not by 1000 pounds", heavy.tuneFor(0, 1), -4);
        heavy.set(5, 50);
        Due.due("down to 1", heavy.tuneFor(0, 1), 1 + (heavy.bell(0, 5) - 2) / 5);
        heavy.set(5, 3);
        heavy.order(0, heavy.bell(0, 5) - 301, 0);
        Due.due("by more than 1000 pounds", heavy.tuneFor(0, 2), -4);
    }

    private static void promise17PourFor() {
        BellFoundry f = Foundries.withoutBurn(8000, 2000);
        f.order(0, 950, 0);
        f.order(1, 1250, 0);
        f.order(0, 951, 500);
        f.order(0, 1, 0);
        f.order(3, 20000, 0);
        Due.due("pourFor(-1)", f.pourFor(-1), -1);
        Due.due("pourFor(5)", f.pourFor(5), -1);
        // 900000 / root + 50 is at least 950 up to the root 1000, which 1003 pounds have too; 1003 has an alloy of 200.
        Due.due("for a church bell", f.pourFor(0), 1003);
        Due.due("for a ship bell", f.pourFor(1), 1003);
        // The tolerance does not count: 900000 / root must be 901, up to the root 998, which 997 pounds have.
        Due.due("of a pitch that is at least so high", f.pourFor(2), 997);
        Due.due("the heaviest of all", f.pourFor(3), 9523);
        Due.due("none", f.pourFor(4), -4);
        f.cancel(0);
        Due.due("for a cancelled order", f.pourFor(0), 1003);
        BellFoundry empty = new BellFoundry();
        empty.order(0, 1, 0);
        Due.due("without a melt", empty.pourFor(0), -4);
        Foundries.addMelt(empty, 0, 1);
        Due.due("what burns away", empty.pourFor(0), -4);
        Foundries.addMelt(empty, 0, 2);
        Due.due("two pounds behind the burn", empty.pourFor(0), 1);
    }

    private static void promise17ByRootAndAlloy() {
        BellFoundry tin = Foundries.withoutBurn(0, 10000);
        tin.order(0, 900 + 250, 0);
        tin.order(0, 250, 0);
        tin.order(0, 251, 0);
        Due.due("up to the root 1000, of tin alone", tin.pourFor(0), 1003);
        Due.due("any pitch", tin.pourFor(1), 9523);
        Due.due("any pitch", tin.pourFor(2), 9523);
        BellFoundry copper = Foundries.withoutBurn(10000, 0);
        copper.order(0, 4500, 0);
        copper.order(0, 4501, 0);
        Due.due("the root of 8 is 200", copper.pourFor(0), 8);
        Due.due("and no less", copper.pourFor(1), 7);
    }

    private static void promise17ByTheMeltAlone() {
        BellFoundry f = Foundries.withoutBurn(8000, 2000);
        f.order(0, 950, 0);
        for (int i = 0; i < 12; i++) {
            f.pour(0, 100);
        }
        Due.due("no bell can be poured", f.pour(0, 100), -3);
        Due.due("but by the melt it could", f.pourFor(0) > 1000 ? 1 : 0, 1);
        f.set(2, 1000);
        Due.due("if it cracks too", f.pourFor(0) > 1000 ? 1 : 0, 1);
        BellFoundry heavy = Foundries.withoutBurn(16000, 4000);
        heavy.order(0, 100, 0);
        Due.due("not beyond 10000", heavy.pourFor(0), 10000);
        heavy.set(4, 0);
        Due.due("not beyond 10000 without sprue", heavy.pourFor(0), 10000);
    }

    /** The answer is what pouring itself tells. */
    private static void promise17AgainstPouring() {
        int[] pitches = {1200, 1640, 2600, 4000, 5000, 9000};
        for (int pitch : pitches) {
            BellFoundry f = Foundries.withMelt(161, 43);
            f.order(1, pitch, 0);
            int due = -4;
            for (int pounds = 204; pounds >= 1 && due < 0; pounds--) {
                int bell = f.pour(1, pounds);
                if (bell >= 0) {
                    due = f.bell(bell, 5) >= pitch ? pounds : due;
                    f.undo();
                }
            }
            Due.due("pourFor at " + pitch, f.pourFor(0), due);
        }
    }

    private static void promise18Wagons() {
        BellFoundry f = Foundries.withoutBurn(8000, 2000);
        int[] weights = {600, 500, 500, 400, 1000};
        for (int weight : weights) {
            f.pour(0, weight);
        }
        f.set(6, 1000);
        Due.due("wagons(-1)", f.wagons(-1), -1);
        Due.due("wagons(least)", f.wagons(Integer.MIN_VALUE), -1);
        Due.due("wagons(32)", f.wagons(32), -1);
        Due.due("no bells", f.wagons(0), 0);
        Due.due("one bell", f.wagons(1), 1);
        Due.due("two of 500", f.wagons(6), 1);
        Due.due("600 and 500", f.wagons(3), 2);
        Due.due("600, 500, 500 and 400", f.wagons(15), 2);
        Due.due("all", f.wagons(31), 3);
        f.smash(1);
        Due.due("the places close up", f.wagons(7), 2);
        Due.due("600 and 400", f.wagons(5), 1);
        Due.due("not so many bells", f.wagons(16), -1);
        f.set(6, 999);
        Due.due("one is heavier than the load", f.wagons(15), -2);
        Due.due("without it", f.wagons(7), 2);
        f.set(6, 599);
        Due.due("the first is heavier than the load", f.wagons(1), -2);
        Due.due("the second is not", f.wagons(2), 1);
        f.undo();
        Due.due("invalid ahead of it", f.wagons(24), -1);
        f.order(0, f.bell(0, 5), 0);
        f.send(0, 0);
        Due.due("without the sent one: 500 and 400", f.wagons(3), 1);
        f.tune(2, 100);
        Due.due("cracked ones count", f.wagons(7), -2);
    }

    private static void promise18FewestOfAll() {
        // Taking the heaviest bells first would need 4 wagons of 100.
        int[] weights = {44, 28, 28, 36, 36, 28, 28, 36, 36};
        BellFoundry f = Foundries.withoutBurn(8000, 2000);
        for (int weight : weights) {
            f.pour(0, weight);
        }
        f.set(6, 100);
        Due.due("three wagons to the last pound", f.wagons(511), 3);
        f.set(6, 99);
        Due.due("a fourth one", f.wagons(511), 4);
        BellFoundry many = Foundries.withoutBurn(16000, 4000);
        for (int i = 0; i < 12; i++) {
            many.pour(0, 1000);
        }
        many.set(6, 1999);
        Due.due("each in its own", many.wagons(4095), 12);
        many.set(6, 2000);
        Due.due("two by two", many.wagons(4095), 6);
        many.set(6, 12000);
        Due.due("all in one", many.wagons(4095), 1);
    }
}
