import java.util.ArrayList;
import java.util.Arrays;
import java.util.List;

/** All promises: runs of up to 512 calls by fixed seeds, each answer compared with that of Reference. */
final class RandomRunsTest {
    private static final int RUNS = 1500;
    private static final int CALLS = 512;
    private static final int[] WILD = {Integer.MIN_VALUE, Integer.MIN_VALUE + 1, -100, -1, 0, 1, 2, 12, 13, 31, 32, 33, 99,
        100, 127, 1000, 1001, 10000, 10001, 20000, 20001, 100000, 100001, Integer.MAX_VALUE - 1, Integer.MAX_VALUE};

    private final BellFoundry foundry = new BellFoundry();
    private final Reference reference = new Reference();
    private final List<String> calls = new ArrayList<>();
    private final String style;
    private long seed;
    private int made = 0;
    private boolean wrong = false;

    private RandomRunsTest(int run) {
        seed = run * 7919L + 17;
        style = new String[] {"mixed", "bells", "orders", "frames", "scrap"}[run % 5];
    }

    public static void main(String[] args) {
        for (int run = 0; run < RUNS && !Due.anyWrong(); run++) {
            new RandomRunsTest(run).runAll();
        }
        Due.end();
    }

    private int random(int below) {
        seed = seed * 6364136223846793005L + 1442695040888963407L;
        return (int) ((seed >>> 33) % below);
    }

    private int between(int from, int to) {
        return from + random(to - from + 1);
    }

    private int wildOr(int number) {
        return random(60) == 0 ? WILD[random(WILD.length)] : number;
    }

    private int metal() {
        return wildOr(random(2));
    }

    /** Mostly a bell that remains. */
    private int someBell() {
        int poured = reference.call("count", 1);
        for (int tries = 0; tries < 8; tries++) {
            int bell = between(Math.max(0, poured - 14), poured);
            if (reference.call("bell", bell, 8) == 0) {
                return wildOr(bell);
            }
        }
        return wildOr(between(-1, poured));
    }

    /** Mostly one that is open. */
    private int someOrder() {
        int came = reference.call("count", 5);
        for (int tries = 0; tries < 8; tries++) {
            int order = between(Math.max(0, came - 12), came);
            if (reference.call("orderOf", order, 3) == 0) {
                return wildOr(order);
            }
        }
        return wildOr(between(-1, came));
    }

    private void runAll() {
        if (random(4) > 0) {
            make("buy", 0, 100000);
            make("buy", 1, between(15000, 30000));
        }
        while (made < CALLS && !wrong) {
            makeSome();
        }
    }

    private void makeSome() {
        int kind = random(100);
        boolean special = kind < 50;
        if (special && style.equals("bells")) {
            makeBells();
        } else if (special && style.equals("orders")) {
            makeOrders();
        } else if (special && style.equals("frames")) {
            makeFrames();
        } else if (special && style.equals("scrap")) {
            makeScrap();
        } else if (kind < 60) {
            makeMetal();
        } else if (kind < 70) {
            makeBells();
        } else if (kind < 78) {
            makeOrders();
        } else if (kind < 84) {
            makeFrames();
        } else if (kind < 90) {
            makeScrap();
        } else {
            makeAccounts();
        }
    }

    private void makeMetal() {
        switch (random(6)) {
            case 0 -> make("buy", metal(), wildOr(between(1, random(3) == 0 ? 100000 : 3000)));
            case 1 -> make("charge", metal(), wildOr(between(1, random(4) == 0 ? 20000 : 2000)));
            case 2 -> make("melt", wildOr(random(7)));
            case 3 -> makeSetting();
            default -> {
                int copper = between(1, 4000);
                make("charge", 0, copper);
                make("charge", 1, Math.max(1, copper * between(20, 34) / 100));
            }
        }
    }

    private void makeSetting() {
        int what = random(7);
        int[] most = {50, 100, 1000, 1000, 300, 50, 20000};
        if (what == 2 || what == 3) {
            make("set", what, what == 2 ? wildOr(between(0, 300)) : wildOr(between(150, 1000)));
        } else {
            make("set", wildOr(what), wildOr(random(8) == 0 ? most[what] + random(2) : random(most[what] + 1)));
        }
    }

    private void makeScrap() {
        int lots = reference.call("count", 0);
        switch (random(6)) {
            case 0, 1 -> make("scrap", wildOr(random(lots + 1)));
            case 2 -> make("smash", someBell());
            case 3 -> make("tune", someBell(), between(1, 40));
            case 4 -> make("pour", random(4), between(1, 900));
            default -> make("lot", wildOr(random(lots + 1)), wildOr(random(6)));
        }
    }

    private void makeBells() {
        int bell = someBell();
        int weight = Math.max(1, reference.call("bell", bell, 2));
        switch (random(8)) {
            case 0, 1 -> make("pour", wildOr(random(4)), wildOr(between(1, random(6) == 0 ? 10000 : 800)));
            case 2 -> make("tune", bell, wildOr(between(1, Math.max(1, weight / 30))));
            case 3 -> make("tune", bell, random(5) == 0 ? weight : between(1, Math.max(1, weight / 8)));
            case 4 -> make("smash", random(3) == 0 ? bell : wildOr(random(Math.max(1, reference.call("count", 1)))));
            case 5 -> make("wagons", wildOr(random(1 << Math.max(0, reference.call("count", 2)))));
            case 6 -> make("wagons", (1 << reference.call("count", 2)) - random(2));
            default -> make("bell", bell, wildOr(random(11)));
        }
    }

    private void makeOrders() {
        int bell = someBell();
        int order = someOrder();
        int profile = Math.max(0, reference.call("bell", bell, 4));
        int pitch = Math.max(1, reference.call("bell", bell, 5));
        switch (random(9)) {
            case 0, 1 -> make("order", random(4) == 0 ? random(4) : profile, Math.max(1, pitch + between(-400, 30)), between(0, 80));
            case 2 -> make("order", wildOr(random(4)), wildOr(between(1, 20000)), wildOr(between(0, 500)));
            case 3 -> make("cancel", order);
            case 4 -> make("send", bell, order);
            case 5 -> make("orderOf", order, wildOr(random(7)));
            case 6 -> makeFitting(bell, order);
            case 7 -> make("pourFor", order);
            default -> {
                int fitting = reference.call("orderOf", order, 4);
                make("send", Math.max(0, fitting), order);
            }
        }
    }

    /** Finds the pounds, tunes by them, and sends the bell. */
    private void makeFitting(int bell, int order) {
        int pounds = make("tuneFor", bell, order);
        if (pounds > 0 && random(3) > 0) {
            make("tune", bell, pounds);
            make("send", bell, order);
        }
    }

    private void makeAccounts() {
        switch (random(5)) {
            case 0 -> make("undo");
            case 1 -> {
                for (int i = between(1, 6); i > 0; i--) {
                    make("undo");
                }
            }
            case 2 -> make("account", metal(), wildOr(random(8)));
            case 3 -> make("count", wildOr(random(28)));
            default -> {
                for (int what = 0; what < 7; what++) {
                    make("account", 0, what);
                    make("account", 1, what);
                }
            }
        }
    }

    private void makeFrames() {
        if (random(3) == 0) {
            make("clearText");
            String text = randomFrame(random(7), new ArrayList<>(remainingBells()));
            for (char sign : text.toCharArray()) {
                make("type", random(80) == 0 ? (int) "(),0123456789 x".charAt(random(15)) : sign);
            }
        } else if (random(12) == 0) {
            make("type", wildOr("(),0123456789 x".charAt(random(15))));
        }
        make("fault", wildOr(random(2)));
        make("fault", wildOr(random(3)));
        for (int what = 0; what < 6; what++) {
            make("frame", wildOr(what));
        }
    }

    private List<Integer> remainingBells() {
        List<Integer> remaining = new ArrayList<>();
        for (int i = 0; i < reference.call("count", 1); i++) {
            if (reference.call("bell", i, 8) < 2) {
                remaining.add(i);
            }
        }
        return remaining;
    }

    private String randomFrame(int depth, List<Integer> bells) {
        if (depth == 0 || bells.size() < 2 || random(6) == 0) {
            int bell = bells.isEmpty() || random(40) == 0 ? random(100) : bells.remove(random(bells.size()));
            return random(3) == 0 && bell < 10 ? "0" + bell : "" + bell;
        }
        boolean deepLeft = random(2) == 0;
        String left = randomFrame(deepLeft ? depth - 1 : random(depth), bells);
        String right = randomFrame(deepLeft ? random(depth) : depth - 1, bells);
        return "(" + left + "," + right + ")";
    }

    /** Makes a call on both, and compares the answers. */
    private int make(String name, int... a) {
        if (made >= CALLS || wrong) {
            return -1;
        }
        made++;
        String call = name + Arrays.toString(a);
        int want = reference.call(name, a);
        int got = Calls.make(foundry, name, a);
        calls.add(call + " = " + got);
        Due.due(call, got, want);
        if (got != want) {
            wrong = true;
            System.out.println("the run was " + calls);
        }
        return want;
    }
}
