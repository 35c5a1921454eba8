/** Promises 22 to 25. */
final class FramesTest {
    private FramesTest() {
    }

    public static void main(String[] args) {
        promise22Type();
        promise23ClearText();
        promise24Faults();
        promise24ByBells();
        promise24Arguments();
        promise25Frames();
        promise25Level();
        promise25LevelTried();
        promise25Errors();
        Due.end();
    }

    /** Bells of 10, 20, .. pounds. */
    private static BellFoundry withBells(int bells) {
        BellFoundry f = Foundries.withoutBurn(8000, 2000);
        for (int i = 1; i <= bells; i++) {
            f.pour(0, 10 * i);
        }
        return f;
    }

    private static void promise22Type() {
        BellFoundry f = new BellFoundry();
        Due.due("type(31)", f.type(31), -1);
        Due.due("type(127)", f.type(127), -1);
        Due.due("type(-1)", f.type(-1), -1);
        Due.due("type(65576), which has the low bits of 40", f.type(65576), -1);
        Due.due("type(32)", f.type(32), 1);
        Due.due("type(126)", f.type(126), 2);
        for (int i = 3; i <= 60; i++) {
            Due.due("type", f.type(40), i);
        }
        Due.due("a sixty-first", f.type(40), -3);
        Due.due("a sixty-first that is invalid", f.type(127), -1);
        Due.due("the length", f.count(9), 60);
    }

    private static void promise23ClearText() {
        BellFoundry f = withBells(1);
        Due.due("clearText of nothing", f.clearText(), 0);
        Foundries.write(f, "x0");
        Due.due("clearText", f.clearText(), 2);
        Due.due("the length", f.count(9), 0);
        Due.due("type", f.type('0'), 1);
        Due.due("the new text alone counts", f.fault(0), -4);
    }

    private static void fault(BellFoundry f, String text, int position, int reason) {
        Foundries.write(f, text);
        Due.due("position of the fault of " + text, f.fault(0), position);
        Due.due("reason of the fault of " + text, f.fault(1), reason);
    }

    private static void promise24Faults() {
        BellFoundry f = withBells(12);
        fault(f, "", 0, 4);
        fault(f, "(", 1, 4);
        fault(f, "(0", 2, 4);
        fault(f, "(0,", 3, 4);
        fault(f, "(0,1", 4, 4);
        fault(f, "((0,1)", 6, 4);
        fault(f, ")", 0, 1);
        fault(f, ",", 0, 1);
        fault(f, " 0", 0, 1);
        fault(f, "0 ", 1, 1);
        fault(f, "0)", 1, 1);
        fault(f, "0,1", 1, 1);
        fault(f, "0(", 1, 1);
        fault(f, "(,1)", 1, 1);
        fault(f, "(0)", 2, 1);
        fault(f, "(0(", 2, 1);
        fault(f, "(0,)", 3, 1);
        fault(f, "(0,1,2)", 4, 1);
        fault(f, "(0,1(", 4, 1);
        fault(f, "(0,1))", 5, 1);
        fault(f, "(0,1)2", 5, 1);
        fault(f, "(0,1)11", 5, 1);
        fault(f, "(0,1)(", 5, 1);
        fault(f, "(0;1)", 2, 1);
        fault(f, "(a,1)", 1, 1);
        fault(f, "(0/1)", 2, 1);
        fault(f, "(0:1)", 2, 1);
        fault(f, "/", 0, 1);
        fault(f, ":", 0, 1);
        fault(f, "(101,2)", 3, 1);
        fault(f, "(1011,2)", 3, 1);
        fault(f, "000", 2, 1);
        fault(f, "(((((0,1),2),3),4),5)", -4, -4);
        fault(f, "(((((", 5, 4);
        fault(f, "((((((0,1),2),3),4),5),6)", 5, 1);
        fault(f, "(0,(1,(2,(3,(4,(5,6))))))", 15, 1);
        fault(f, "(0,(1,(2,(3,(4,5)))))", -4, -4);
        fault(f, "7", -4, -4);
        fault(f, "07", -4, -4);
        fault(f, "11", -4, -4);
        fault(f, "((0,1),(2,03))", -4, -4);
    }

    private static void promise24ByBells() {
        BellFoundry f = withBells(12);
        fault(f, "12", 0, 2);
        fault(f, "(0,99)", 3, 2);
        fault(f, "(12,", 1, 2);
        fault(f, "121", 0, 2);
        fault(f, "(0,0)", 3, 3);
        fault(f, "(7,07)", 3, 3);
        fault(f, "((0,1),(2,1))", 10, 3);
        fault(f, "(0,1", 4, 4);
        f.smash(1);
        Due.due("a smashed one: position", f.fault(0), 3);
        Due.due("a smashed one: reason", f.fault(1), 2);
        f.undo();
        Due.due("not smashed: reason", f.fault(1), 4);
        f.order(0, f.bell(0, 5), 0);
        f.send(0, 0);
        Due.due("a sent one: position", f.fault(0), 1);
        Due.due("a sent one: reason", f.fault(1), 2);
        f.tune(5, 9);
        Due.due("a cracked one", f.bell(5, 8), 1);
        fault(f, "5", -4, -4);
        f.pour(0, 5);
        fault(f, "12", -4, -4);
    }

    private static void promise24Arguments() {
        BellFoundry f = withBells(1);
        Due.due("fault(-1)", f.fault(-1), -1);
        Due.due("fault(2)", f.fault(2), -1);
        Foundries.write(f, "0");
        Due.due("fault(2) without a fault", f.fault(2), -1);
        Due.due("fault(0) without a fault", f.fault(0), -4);
        Due.due("fault(1) without a fault", f.fault(1), -4);
    }

    private static void frame(BellFoundry f, String text, int... due) {
        Foundries.write(f, text);
        for (int what = 0; what <= 5; what++) {
            Due.due("frame(" + what + ") of " + text, f.frame(what), due[what]);
        }
    }

    private static void promise25Frames() {
        BellFoundry f = withBells(12);
        frame(f, "3", 40, 1, 0, 0, 0, 0);
        frame(f, "(0,1)", 30, 2, 1, 1, 10, 10);
        frame(f, "(1,0)", 30, 2, 1, 1, 10, 10);
        frame(f, "((0,1),2)", 60, 3, 2, 2, 10, 20);
        frame(f, "(2,(0,1))", 60, 3, 2, 2, 10, 20);
        frame(f, "((0,2),3)", 80, 3, 2, 2, 20, 40);
        frame(f, "((0,10),(1,11))", 260, 4, 3, 2, 100, 220);
        frame(f, "(((((0,1),2),3),4),11)", 270, 6, 5, 5, 50, 370);
        frame(f, "((0,1),(2,(3,(4,5))))", 210, 6, 5, 4, 150, 750);
        f.tune(1, 1);
        frame(f, "(1,0)", 29, 2, 1, 1, 9, 9);
    }

    /** Where beams hang in beams, a frame's weight must be one that can be halved so often. */
    private static void promise25Level() {
        BellFoundry f = Foundries.withoutBurn(8000, 2000);
        int[] weights = {1, 3, 101, 7, 6};
        for (int weight : weights) {
            f.pour(0, weight);
        }
        // 101 against (1,3): 102 is the least that can be halved.
        frame(f, "(2,(0,1))", 105, 3, 2, 2, 97, 99);
        // 101 against ((1,3),7): 104 is the least that can be halved twice.
        frame(f, "(2,((0,1),3))", 112, 4, 3, 3, 90, 96);
        frame(f, "((0,1),4)", 10, 3, 2, 2, 2, 2);
        frame(f, "((0,1),3)", 11, 3, 2, 2, 3, 5);
    }

    private static void promise25LevelTried() {
        BellFoundry f = Foundries.withoutBurn(8000, 2000);
        int[] weights = {13, 5, 18, 27};
        for (int weight : weights) {
            f.pour(0, weight);
        }
        Foundries.write(f, "((0,1),(2,3))");
        int due = Integer.MAX_VALUE;
        for (int each = 1; each <= 60; each++) {
            if (each >= 13 && each >= 5 && each >= 18 && each >= 27) {
                due = Math.min(due, 4 * each - 63);
            }
        }
        Due.due("four alike", f.frame(5), due);
        Foundries.write(f, "(0,(1,(2,3)))");
        due = Integer.MAX_VALUE;
        for (int lowest = 27; lowest <= 60; lowest++) {
            int middle = 2 * lowest;
            int upper = 2 * middle;
            if (middle >= 5 && upper >= 13) {
                due = Math.min(due, 2 * upper - 63);
            }
        }
        Due.due("a chain", f.frame(5), due);
    }

    private static void promise25Errors() {
        BellFoundry f = withBells(2);
        Due.due("frame(0) of nothing", f.frame(0), -2);
        Due.due("frame(-1) of nothing", f.frame(-1), -1);
        Due.due("frame(6) of nothing", f.frame(6), -1);
        Foundries.write(f, "(0,1)");
        Due.due("frame(6)", f.frame(6), -1);
        Due.due("frame(-1)", f.frame(-1), -1);
        f.smash(1);
        for (int what = 0; what <= 5; what++) {
            Due.due("frame(" + what + ") with a smashed bell", f.frame(what), -2);
        }
        f.undo();
        Due.due("not smashed", f.frame(0), 30);
    }
}
