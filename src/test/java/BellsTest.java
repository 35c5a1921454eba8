/** Promises 8 to 11. */
final class BellsTest {
    private BellsTest() {
    }

    public static void main(String[] args) {
        promise8PitchByProfile();
        promise8PitchByWeight();
        promise8BurnBellAndSprue();
        promise8Sprue();
        promise8TheLastPounds();
        promise8Cracks();
        promise8TooLight();
        promise8TwelveBells();
        promise8HundredBells();
        promise9Tune();
        promise9PitchIsAtLeastOne();
        promise9Cracks();
        promise9Errors();
        promise10Smash();
        promise11Bell();
        Due.end();
    }

    private static void promise8PitchByProfile() {
        BellFoundry f = Foundries.withoutBurn(8000, 2000);
        int[] due = {950, 1250, 1550, 1150};
        for (int profile = 0; profile < 4; profile++) {
            Due.due("pour", f.pour(profile, 1000), profile);
            Due.due("pitch of profile " + profile, f.bell(profile, 5), due[profile]);
            Due.due("profile", f.bell(profile, 4), profile);
        }
    }

    private static void promise8PitchByWeight() {
        BellFoundry f = Foundries.withoutBurn(15000, 5000);
        // The roots are 999, 1000, 100, 125 (of 1.99), 200 and 199 (of 7.9).
        int[] weights = {999, 1001, 1, 2, 8, 7};
        int[] roots = {999, 1000, 100, 125, 200, 191};
        for (int i = 0; i < weights.length; i++) {
            int bell = f.pour(0, weights[i]);
            Due.due("pitch of " + weights[i], f.bell(bell, 5), 900000 / roots[i] + f.bell(bell, 3) / 4);
        }
        Due.due("pitch of a pound of tin", f.bell(2, 5), 9000 + 250);
        Due.due("pitch of the heaviest bell", Foundries.withoutBurn(15000, 5000).pour(0, 10000), 0);
        BellFoundry heavy = Foundries.withoutBurn(15000, 5000);
        heavy.pour(2, 10000);
        Due.due("its root is 2154", heavy.bell(0, 5), 1500000 / 2154 + 250 / 4);
    }

    private static void promise8BurnBellAndSprue() {
        BellFoundry f = Foundries.withMelt(801, 201);
        Due.due("pour", f.pour(3, 333), 0);
        // Burnt: 796 and 196, 992 in all. 333 * 796 / 992 = 267.2; 17 pounds of sprue from 529 and 130: 17 * 529 / 659 = 13.6.
        Due.due("copper of the bell", f.bell(0, 0), 267);
        Due.due("tin of the bell", f.bell(0, 1), 66);
        Due.due("alloy of the bell", f.bell(0, 3), 198);
        Due.due("copper of the sprue", f.lot(0, 0), 13);
        Due.due("tin of the sprue", f.lot(0, 1), 4);
        Due.due("kind of the sprue", f.lot(0, 4), 0);
        Due.due("copper of the melt", f.melt(0), 516);
        Due.due("tin of the melt", f.melt(1), 126);
        Due.due("slag of copper", f.account(0, 6), 5);
        Due.due("slag of tin", f.account(1, 6), 5);
        Due.due("weight as poured", f.bell(0, 6), 333);
        Due.due("not tuned", f.bell(0, 7), 0);
    }

    private static void promise8Sprue() {
        BellFoundry f = Foundries.withoutBurn(8000, 2000);
        f.set(4, 0);
        f.pour(0, 100);
        Due.due("no sprue, no lot", f.count(0), 0);
        f.set(4, 300);
        f.pour(0, 1);
        Due.due("rounded up", f.lot(0, 2), 1);
        f.pour(0, 10);
        Due.due("even", f.lot(1, 2), 3);
        f.set(4, 1);
        f.pour(0, 1001);
        Due.due("just above", f.lot(2, 2), 2);
    }

    private static void promise8TheLastPounds() {
        BellFoundry f = Foundries.withoutBurn(1, 0);
        f.set(4, 0);
        Due.due("a pound of a pound", f.pour(0, 1), 0);
        Due.due("its copper", f.bell(0, 0), 1);
        Due.due("its tin", f.bell(0, 1), 0);
        Due.due("its pitch", f.bell(0, 5), 9000);
        Due.due("no copper is left", f.melt(0), 0);
        Due.due("no tin is left", f.melt(1), 0);
    }

    private static void promise8Cracks() {
        int[][] alloys = {{179, 1}, {180, 0}, {260, 0}, {261, 1}, {0, 1}, {1000, 1}};
        for (int[] alloy : alloys) {
            BellFoundry f = Foundries.withoutBurn(10000 - 10 * alloy[0], 10 * alloy[0]);
            f.pour(0, 1000);
            Due.due("alloy", f.bell(0, 3), alloy[0]);
            Due.due("cracked by alloy " + alloy[0], f.bell(0, 8), alloy[1]);
        }
        BellFoundry f = Foundries.withoutBurn(8000, 2000);
        f.set(2, 201);
        f.pour(0, 100);
        f.set(2, 200);
        f.set(3, 200);
        f.pour(0, 100);
        f.set(3, 199);
        f.pour(0, 100);
        Due.due("cracked by the settings as they were", f.bell(0, 8), 1);
        Due.due("sound by the settings as they were", f.bell(1, 8), 0);
        Due.due("cracked by the most", f.bell(2, 8), 1);
    }

    private static void promise8TooLight() {
        BellFoundry f = Foundries.withMelt(800, 200);
        // Behind its burn it has 992 pounds: 944 and a sprue of 48 are just in it.
        Due.due("too light for the sprue", f.pour(0, 945), -2);
        Due.due("much too light", f.pour(0, 10000), -2);
        Due.due("nothing burnt", f.melt(2), 1000);
        Due.due("no slag", f.account(0, 6), 0);
        Due.due("pour(-1, 1)", f.pour(-1, 1), -1);
        Due.due("pour(4, 1)", f.pour(4, 1), -1);
        Due.due("pour(0, 0)", f.pour(0, 0), -1);
        Due.due("pour(0, 10001)", f.pour(0, 10001), -1);
        Due.due("just heavy enough", f.pour(0, 944), 0);
        Due.due("nothing is left", f.melt(2), 0);
        Due.due("from nothing", f.pour(0, 1), -2);
    }

    private static void promise8TwelveBells() {
        BellFoundry f = Foundries.withoutBurn(8000, 2000);
        for (int i = 0; i < 12; i++) {
            f.pour(0, 100);
        }
        Due.due("a thirteenth", f.pour(0, 100), -3);
        Due.due("a thirteenth that is too heavy", f.pour(0, 10000), -2);
        Due.due("a thirteenth that is invalid", f.pour(4, 100), -1);
        f.smash(3);
        Due.due("when one is smashed", f.pour(0, 100), 12);
        f.order(0, 2000, 500);
        f.send(0, 0);
        Due.due("when one is sent", f.pour(0, 100), 13);
        Due.due("again too many", f.pour(0, 100), -3);
    }

    private static void promise8HundredBells() {
        BellFoundry f = Foundries.withoutBurn(8000, 2000);
        for (int i = 0; i < 100; i++) {
            Due.due("pour", f.pour(0, 10), i);
            Due.due("smash", f.smash(i), 10);
        }
        Due.due("a hundred and first", f.pour(0, 10), -3);
        Due.due("poured", f.count(1), 100);
        Due.due("bell(99, 6)", f.bell(99, 6), 10);
        Due.due("bell(100, 6)", f.bell(100, 6), -1);
        f.undo();
        f.order(0, 20000, 0);
        f.order(0, f.bell(99, 5), 0);
        Due.due("of a hundred bells none fits", f.orderOf(0, 4), -4);
        Due.due("how many fit", f.orderOf(0, 5), 0);
        Due.due("the last one fits", f.orderOf(1, 4), 99);
        Due.due("how many fit", f.orderOf(1, 5), 1);
        Due.due("a wagon for it", f.wagons(1), 1);
        Foundries.write(f, "99");
        Due.due("a frame of it", f.frame(0), 10);
    }

    private static void promise9Tune() {
        BellFoundry f = Foundries.withoutBurn(8000, 2000);
        f.pour(0, 1000);
        Due.due("by 10 of 1000", f.tune(0, 10), 950 - 60);
        // 6 * 1000 * 7 / 990 = 42.4
        Due.due("by 7 of 990", f.tune(0, 7), 890 - 42);
        Due.due("weight", f.bell(0, 2), 983);
        Due.due("drawn", f.bell(0, 7), 17);
        Due.due("as poured", f.bell(0, 6), 1000);
        Due.due("shavings", f.lot(2, 2), 7);
        Due.due("their kind", f.lot(2, 4), 1);
        // 7 * 792 / 990 = 5.6
        Due.due("their copper", f.lot(2, 0), 5);
        Due.due("the copper of the bell", f.bell(0, 0), 787);
        f.set(5, 50);
        Due.due("by another setting", f.tune(0, 1), 848 - 50);
        Due.due("the pitch", f.bell(0, 5), 798);
    }

    private static void promise9PitchIsAtLeastOne() {
        BellFoundry f = Foundries.withoutBurn(8000, 2000);
        f.pour(0, 1000);
        f.set(5, 50);
        Due.due("the pitch ends at 1", f.tune(0, 19), 1);
        Due.due("it stays there", f.tune(0, 1), 1);
        f.undo();
        f.undo();
        f.set(5, 9);
        f.tune(0, 100);
        Due.due("it is at 50", f.bell(0, 5), 50);
        Due.due("and whole", f.bell(0, 8), 0);
    }

    private static void promise9Cracks() {
        BellFoundry f = Foundries.withoutBurn(8000, 2000);
        f.pour(0, 109);
        f.pour(2, 119);
        f.tune(0, 4);
        f.tune(0, 6);
        Due.due("10 of 109", f.bell(0, 8), 0);
        f.tune(0, 1);
        Due.due("11 of 109", f.bell(0, 8), 1);
        Due.due("it was tuned all the same", f.bell(0, 7), 11);
        f.tune(1, 5);
        Due.due("5 of 119 of a hand bell", f.bell(1, 8), 0);
        f.tune(1, 1);
        Due.due("6 of 119 of a hand bell", f.bell(1, 8), 1);
        for (int profile = 0; profile < 4; profile++) {
            int bell = f.pour(profile, 120);
            f.tune(bell, 7);
            Due.due("7 of 120, profile " + profile, f.bell(bell, 8), profile == 2 ? 1 : 0);
        }
        int all = f.pour(1, 120);
        Due.due("tune away all but a pound", f.tune(all, 119) > 0 ? 1 : 0, 1);
        Due.due("a pound", f.bell(all, 2), 1);
        Due.due("cracked", f.bell(all, 8), 1);
    }

    private static void promise9Errors() {
        BellFoundry f = Foundries.withoutBurn(8000, 2000);
        f.pour(0, 100);
        f.pour(0, 100);
        f.pour(0, 100);
        Due.due("tune(3, 1)", f.tune(3, 1), -1);
        Due.due("tune(-1, 1)", f.tune(-1, 1), -1);
        Due.due("tune(0, 0)", f.tune(0, 0), -1);
        Due.due("tune(0, 1001)", f.tune(0, 1001), -1);
        Due.due("not heavier than this", f.tune(0, 100), -2);
        Due.due("lighter than this", f.tune(0, 1000), -2);
        f.tune(0, 50);
        Due.due("cracked", f.tune(0, 1), -2);
        f.smash(1);
        Due.due("smashed", f.tune(1, 1), -2);
        f.order(0, 2000, 500);
        f.send(2, 0);
        Due.due("sent", f.tune(2, 1), -2);
        Due.due("invalid ahead of smashed", f.tune(1, 0), -1);
    }

    private static void promise10Smash() {
        BellFoundry f = Foundries.withoutBurn(8000, 2000);
        f.pour(0, 1000);
        f.pour(0, 100);
        f.pour(0, 100);
        f.tune(0, 10);
        f.tune(1, 20);
        Due.due("smash(-1)", f.smash(-1), -1);
        Due.due("smash(3)", f.smash(3), -1);
        Due.due("its weight", f.smash(0), 990);
        Due.due("the lot", f.lot(5, 2), 990);
        Due.due("its kind", f.lot(5, 4), 2);
        Due.due("smashed before", f.smash(0), -2);
        Due.due("a cracked one", f.smash(1), 80);
        f.order(0, 2000, 500);
        f.send(2, 0);
        Due.due("a sent one", f.smash(2), -2);
        Due.due("copper in scrap", f.account(0, 3), f.account(0, 0) - f.account(0, 2) - f.account(0, 5));
    }

    private static void promise11Bell() {
        BellFoundry f = Foundries.withoutBurn(8000, 2000);
        f.pour(3, 1000);
        f.tune(0, 10);
        int[] due = {792, 198, 990, 200, 3, 1090, 1000, 10, 0, -4};
        for (int what = 0; what <= 9; what++) {
            Due.due("bell(0, " + what + ")", f.bell(0, what), due[what]);
        }
        Due.due("bell(0, 10)", f.bell(0, 10), -1);
        Due.due("bell(0, -1)", f.bell(0, -1), -1);
        Due.due("bell(1, 0)", f.bell(1, 0), -1);
        Due.due("bell(-1, 0)", f.bell(-1, 0), -1);
        f.order(0, 1, 0);
        f.order(3, 1090, 0);
        f.send(0, 1);
        due[8] = 2;
        due[9] = 1;
        for (int what = 0; what <= 9; what++) {
            Due.due("sent: bell(0, " + what + ")", f.bell(0, what), due[what]);
        }
        f.pour(3, 1000);
        f.tune(1, 10);
        f.tune(1, 91);
        Due.due("cracked", f.bell(1, 8), 1);
        f.smash(1);
        int pitch = 1090 - 6 * 1000 * 91 / 990;
        int[] smashed = {-4, -4, -4, -4, 3, pitch, 1000, 101, 3, -4};
        for (int what = 0; what <= 9; what++) {
            Due.due("smashed: bell(1, " + what + ")", f.bell(1, what), smashed[what]);
        }
        Due.due("smashed: bell(1, 10)", f.bell(1, 10), -1);
    }
}
