/**
 * Finds small decision trees over at most 48 samples of six yes-or-no features.
 *
 * <p>A path through a tree is known by the features it asked and the answers it got, whatever their
 * order. Such a pair is a cell: the asked features in the upper six bits, those of them answered
 * with yes in the lower six. Cell 0 is the start of a tree, which every sample reaches.
 */
public final class BestTree {
    private static final int MOST_SAMPLES = 48;
    private static final int FEATURES = 6;
    private static final int FEATURE_SETS = 1 << FEATURES;
    private static final int ALL_FEATURES = FEATURE_SETS - 1;
    private static final int CELLS = FEATURE_SETS * FEATURE_SETS;
    private static final int START = 0;
    private static final int MOST_DEPTH = 3;
    private static final int MOST_LEAVES = 1 << MOST_DEPTH;
    private static final int MOST_PRICE = 20;
    private static final int REFUSED = -1;

    private final int[] sampleFeatures = new int[MOST_SAMPLES];
    private final boolean[] sampleGood = new boolean[MOST_SAMPLES];
    private final int[] goodInCell = new int[CELLS];
    private final int[] badInCell = new int[CELLS];
    private final int[] leastCost = new int[CELLS];
    private int samples;

    public BestTree() {
        samples = 0;
    }

    public int add(int features, boolean good) {
        if (samples >= MOST_SAMPLES) {
            return REFUSED;
        }
        int known = features & ALL_FEATURES;
        sampleFeatures[samples] = known;
        sampleGood[samples] = good;
        samples++;
        countInCells(known, good, 1);
        return samples;
    }

    public int drop(int number) {
        if (number < 0 || number >= samples) {
            return REFUSED;
        }
        countInCells(sampleFeatures[number], sampleGood[number], -1);
        samples--;
        for (int i = number; i < samples; i++) {
            sampleFeatures[i] = sampleFeatures[i + 1];
            sampleGood[i] = sampleGood[i + 1];
        }
        return samples;
    }

    public int mistakes(int depth) {
        int deepest = nearest(depth, 0, MOST_DEPTH);
        findLeastCosts(deepest, 1, 0);
        return leastCost[START];
    }

    public int price(int depth, int price) {
        int deepest = nearest(depth, 0, MOST_DEPTH);
        int perQuestion = nearest(price, 0, MOST_PRICE);
        findLeastCosts(deepest, 1, perQuestion);
        return leastCost[START];
    }

    public int question(int depth, int price) {
        int deepest = nearest(depth, 1, MOST_DEPTH);
        int perQuestion = nearest(price, 0, MOST_PRICE);
        findLeastCosts(deepest - 1, 1, perQuestion);
        int best = 0;
        int bestCost = costOfAsking(START, 0, perQuestion);
        for (int feature = 1; feature < FEATURES; feature++) {
            int cost = costOfAsking(START, feature, perQuestion);
            if (cost < bestCost) {
                best = feature;
                bestCost = cost;
            }
        }
        return best;
    }

    public int leaves(int depth) {
        int deepest = nearest(depth, 0, MOST_DEPTH);
        // No tree has MOST_LEAVES questions, so one mistake outweighs all the questions of a tree
        // and the remainder is the number of questions.
        findLeastCosts(deepest, MOST_LEAVES, 1);
        return leastCost[START] % MOST_LEAVES + 1;
    }

    public int mistakesBy(int depth, int feature) {
        if (feature < 0 || feature >= FEATURES) {
            return REFUSED;
        }
        int deepest = nearest(depth, 1, MOST_DEPTH);
        findLeastCosts(deepest - 1, 1, 0);
        return costOfAsking(START, feature, 0);
    }

    public int doubtful() {
        int found = 0;
        for (int features = 0; features < FEATURE_SETS; features++) {
            int cell = cellOf(ALL_FEATURES, features);
            if (goodInCell[cell] > 0 && badInCell[cell] > 0) {
                found += goodInCell[cell] + badInCell[cell];
            }
        }
        return found;
    }

    private static int nearest(int value, int least, int most) {
        if (value < least) {
            return least;
        }
        return value > most ? most : value;
    }

    private static int cellOf(int asked, int features) {
        return (asked << FEATURES) | (features & asked);
    }

    private void countInCells(int features, boolean good, int change) {
        for (int asked = 0; asked < FEATURE_SETS; asked++) {
            int cell = cellOf(asked, features);
            if (good) {
                goodInCell[cell] += change;
            } else {
                badInCell[cell] += change;
            }
        }
    }

    /** Leaves in leastCost, for every cell, the least cost of a tree of at most the depth there. */
    private void findLeastCosts(int depth, int perMistake, int perQuestion) {
        for (int cell = 0; cell < CELLS; cell++) {
            int wrong = goodInCell[cell] < badInCell[cell] ? goodInCell[cell] : badInCell[cell];
            leastCost[cell] = wrong * perMistake;
        }
        for (int allowed = 1; allowed <= depth; allowed++) {
            allowOneDeeper(perQuestion);
        }
    }

    private void allowOneDeeper(int perQuestion) {
        // A question leads to greater cells only, so on the way up the costs that it reads are
        // still those of the lesser depth.
        for (int cell = 0; cell < CELLS; cell++) {
            for (int feature = 0; feature < FEATURES; feature++) {
                if (!isAsked(cell, feature)) {
                    int cost = costOfAsking(cell, feature, perQuestion);
                    leastCost[cell] = cost < leastCost[cell] ? cost : leastCost[cell];
                }
            }
        }
    }

    // To ask a feature again only adds a branch that no sample reaches, so it is never tried.
    private static boolean isAsked(int cell, int feature) {
        return ((cell >> (FEATURES + feature)) & 1) == 1;
    }

    private int costOfAsking(int cell, int feature, int perQuestion) {
        int no = cell | (1 << (FEATURES + feature));
        int yes = no | (1 << feature);
        return perQuestion + leastCost[no] + leastCost[yes];
    }
}
