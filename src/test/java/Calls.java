/** Makes calls of the face by their names. */
final class Calls {
    private Calls() {
    }

    static int make(BellFoundry foundry, String name, int... a) {
        return switch (name) {
            case "buy" -> foundry.buy(a[0], a[1]);
            case "charge" -> foundry.charge(a[0], a[1]);
            case "scrap" -> foundry.scrap(a[0]);
            case "lot" -> foundry.lot(a[0], a[1]);
            case "melt" -> foundry.melt(a[0]);
            case "set" -> foundry.set(a[0], a[1]);
            case "pour" -> foundry.pour(a[0], a[1]);
            case "tune" -> foundry.tune(a[0], a[1]);
            case "smash" -> foundry.smash(a[0]);
            case "bell" -> foundry.bell(a[0], a[1]);
            case "order" -> foundry.order(a[0], a[1], a[2]);
            case "cancel" -> foundry.cancel(a[0]);
            case "send" -> foundry.send(a[0], a[1]);
            case "orderOf" -> foundry.orderOf(a[0], a[1]);
            case "tuneFor" -> foundry.tuneFor(a[0], a[1]);
            case "pourFor" -> foundry.pourFor(a[0]);
            case "wagons" -> foundry.wagons(a[0]);
            case "account" -> foundry.account(a[0], a[1]);
            case "count" -> foundry.count(a[0]);
            case "undo" -> foundry.undo();
            case "type" -> foundry.type(a[0]);
            case "clearText" -> foundry.clearText();
            case "fault" -> foundry.fault(a[0]);
            case "frame" -> foundry.frame(a[0]);
            default -> throw new IllegalArgumentException(name);
        };
    }
}
