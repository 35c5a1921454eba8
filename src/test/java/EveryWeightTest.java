/** The pitch of a bell of each weight (promise 8), and the heaviest bell for each pitch (promise 17). */
final class EveryWeightTest {
    private static final int[] FACTORS = {900, 1200, 1500, 1100};
    private static final int MOST_WEIGHT = 10000;
    private static final int MOST_PITCH = 20000;
    /** What an object is sure to serve for, less what it takes to make one ready. */
    private static final int CALLS = 500;

    private EveryWeightTest() {
    }

    public static void main(String[] args) {
        int[] roots = roots();
        int[][] melts = {{0, 20000}, {20000, 0}, {16000, 4000}, {15001, 4999}};
        for (int[] melt : melts) {
            for (int profile = 0; profile < FACTORS.length; profile++) {
                int[] pitches = pitches(profile, melt[0], melt[1], roots);
                promise8EachWeight(profile, melt, pitches);
                promise17EachPitch(profile, melt, pitches);
            }
        }
        Due.end();
    }

    /** For each weight the greatest number whose cube is at most 1000000 times it, by counting. */
    private static int[] roots() {
        int[] roots = new int[MOST_WEIGHT + 1];
        long root = 0;
        for (int weight = 1; weight <= MOST_WEIGHT; weight++) {
            while ((root + 1) * (root + 1) * (root + 1) <= 1000000L * weight) {
                root++;
            }
            roots[weight] = (int) root;
        }
        return roots;
    }

    private static int[] pitches(int profile, int copper, int tin, int[] roots) {
        int[] pitches = new int[MOST_WEIGHT + 1];
        for (int weight = 1; weight <= MOST_WEIGHT; weight++) {
            long tinOfBell = weight - (long) weight * copper / (copper + tin);
            int alloy = (int) (1000 * tinOfBell / weight);
            pitches[weight] = FACTORS[profile] * 1000 / roots[weight] + alloy / 4;
        }
        return pitches;
    }

    private static void promise8EachWeight(int profile, int[] melt, int[] pitches) {
        BellFoundry f = null;
        int calls = CALLS;
        for (int weight = 1; weight <= MOST_WEIGHT; weight++) {
            if (calls + 3 > CALLS) {
                f = Foundries.withoutBurn(melt[0], melt[1]);
                calls = 0;
            }
            f.pour(profile, weight);
            Due.due("8: the pitch of " + weight + " pounds, profile " + profile, f.bell(0, 5), pitches[weight]);
            f.undo();
            calls += 3;
        }
    }

    private static void promise17EachPitch(int profile, int[] melt, int[] pitches) {
        BellFoundry f = null;
        int calls = CALLS;
        for (int pitch = 1; pitch <= MOST_PITCH; pitch++) {
            if (calls + 3 > CALLS) {
                f = Foundries.withoutBurn(melt[0], melt[1]);
                calls = 0;
            }
            f.order(profile, pitch, 0);
            Due.due("17: for the pitch " + pitch + ", profile " + profile, f.pourFor(0), heaviest(pitches, pitch));
            f.undo();
            calls += 3;
        }
    }

    private static int heaviest(int[] pitches, int pitch) {
        int weight = MOST_WEIGHT;
        while (weight >= 1 && pitches[weight] < pitch) {
            weight--;
        }
        return weight >= 1 ? weight : BellFoundry.NOT_FOUND;
    }
}
