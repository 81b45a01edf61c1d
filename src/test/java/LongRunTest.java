import java.util.ArrayList;
import java.util.Arrays;
import java.util.List;
import java.util.Random;
import java.util.Set;
import java.util.TreeSet;

/**
 * Runs of 512 calls on one object, all methods mixed, against a plain second program that keeps a
 * list and, for every depth and number of leaves, tries all trees. The seed is fixed, so that each
 * run of the test is the same.
 */
public final class LongRunTest {
    private static final int NONE = 1000;
    private static final int RUNS = 150;
    private static final int CALLS = 512;
    private static final int[] FAR = {
        Integer.MIN_VALUE, Integer.MIN_VALUE + 1, -1000, -64, 64, 1000, Integer.MAX_VALUE - 1, Integer.MAX_VALUE,
    };
    /** What must have come about in some run, or the runs would pass over it unseen. */
    private static final List<String> TO_BE_SEEN = List.of(
            "add", "add refused", "drop", "drop refused", "drop of the last one", "mistakes", "price",
            "question", "leaves", "mistakesBy", "mistakesBy refused", "doubtful");
    private static final Set<String> SEEN = new TreeSet<>();
    private static int wrong = 0;

    private static final class Sample {
        final int features;
        final boolean good;

        Sample(int features, boolean good) {
            this.features = features;
            this.good = good;
        }

        boolean says(int feature) {
            return (features >> feature & 1) == 1;
        }
    }

    public static void main(String[] args) {
        Random random = new Random(20261115);
        for (int run = 0; run < RUNS && wrong == 0; run++) {
            oneRun(run, random);
        }
        for (String kind : TO_BE_SEEN) {
            if (wrong == 0 && !SEEN.contains(kind)) {
                wrong++;
                System.out.println("no run had this: " + kind);
            }
        }
        System.out.println(RUNS + " runs of " + CALLS + " calls, " + wrong + " answers not as due");
        if (wrong != 0) {
            System.exit(1);
        }
    }

    private static void oneRun(int run, Random random) {
        BestTree tree = new BestTree();
        List<Sample> samples = new ArrayList<>();
        int mask = random.nextInt(3) == 0 ? random.nextInt(64) : -1;
        int rule = random.nextInt();
        int noise = 1 + random.nextInt(10);
        int dropsIn100 = random.nextInt(30);
        for (int call = 0; call < CALLS; call++) {
            String where = "run " + run + ", call " + call + ": ";
            int kind = random.nextInt(100);
            if (kind < dropsIn100) {
                int number = orFar(random, random.nextInt(samples.size() + 3) - 1);
                due(where, "drop", "(" + number + ")", tree.drop(number), drop(samples, number));
            } else if (kind < 50) {
                int features = random.nextInt() & mask;
                boolean good = ruled(features, rule) ^ random.nextInt(noise) == 0;
                due(where, "add", "(" + features + ", " + good + ")", tree.add(features, good),
                        add(samples, features, good));
            } else {
                ask(where, tree, samples, random);
            }
        }
    }

    private static int orFar(Random random, int value) {
        return random.nextInt(12) == 0 ? FAR[random.nextInt(FAR.length)] : value;
    }

    /** A rule over three features that rule picks, so that good trees exist to be found. */
    private static boolean ruled(int features, int rule) {
        int row = 0;
        for (int i = 0; i < 3; i++) {
            int feature = (rule >>> 8 + 4 * i & 15) % 6;
            row = row << 1 | features >> feature & 1;
        }
        return (rule >> row & 1) == 1;
    }

    private static void ask(String where, BestTree tree, List<Sample> samples, Random random) {
        int depth = orFar(random, random.nextInt(6) - 1);
        int price = orFar(random, random.nextInt(3) == 0 ? random.nextInt(26) - 3 : random.nextInt(5));
        int feature = orFar(random, random.nextInt(8) - 1);
        String priced = "(" + depth + ", " + price + ")";
        switch (random.nextInt(6)) {
            case 0:
                due(where, "mistakes", "(" + depth + ")", tree.mistakes(depth), mistakes(samples, depth));
                break;
            case 1:
                due(where, "price", priced, tree.price(depth, price), price(samples, depth, price));
                break;
            case 2:
                due(where, "question", priced, tree.question(depth, price), question(samples, depth, price));
                break;
            case 3:
                due(where, "leaves", "(" + depth + ")", tree.leaves(depth), leaves(samples, depth));
                break;
            case 4:
                due(where, "mistakesBy", "(" + depth + ", " + feature + ")", tree.mistakesBy(depth, feature),
                        mistakesBy(samples, depth, feature));
                break;
            default:
                due(where, "doubtful", "()", tree.doubtful(), doubtful(samples));
                break;
        }
    }

    private static void due(String where, String method, String arguments, int got, int want) {
        SEEN.add(want == -1 ? method + " refused" : method);
        if (method.equals("drop") && want == 0) {
            SEEN.add("drop of the last one");
        }
        if (got != want) {
            wrong++;
            System.out.println(where + method + arguments + " answered " + got + ", due is " + want);
        }
    }

    private static int clamp(int value, int least, int most) {
        return Math.max(least, Math.min(most, value));
    }

    private static int add(List<Sample> samples, int features, boolean good) {
        if (samples.size() == 48) {
            return -1;
        }
        samples.add(new Sample(features & 63, good));
        return samples.size();
    }

    private static int drop(List<Sample> samples, int number) {
        if (number < 0 || number >= samples.size()) {
            return -1;
        }
        samples.remove(number);
        return samples.size();
    }

    private static int mistakes(List<Sample> samples, int depth) {
        return price(samples, depth, 0);
    }

    private static int price(List<Sample> samples, int depth, int price) {
        return cheapest(fewest(samples, clamp(depth, 0, 3)), clamp(price, 0, 20));
    }

    private static int question(List<Sample> samples, int depth, int price) {
        int best = -1;
        int least = NONE;
        for (int feature = 0; feature < 6; feature++) {
            int[] table = fewestBy(samples, clamp(depth, 1, 3), feature);
            int cost = cheapest(table, clamp(price, 0, 20));
            if (cost < least) {
                best = feature;
                least = cost;
            }
        }
        return best;
    }

    private static int leaves(List<Sample> samples, int depth) {
        int[] table = fewest(samples, clamp(depth, 0, 3));
        int least = cheapest(table, 0);
        for (int leaves = 1; leaves < table.length; leaves++) {
            if (table[leaves] == least) {
                return leaves;
            }
        }
        return -1;
    }

    private static int mistakesBy(List<Sample> samples, int depth, int feature) {
        if (feature < 0 || feature > 5) {
            return -1;
        }
        return cheapest(fewestBy(samples, clamp(depth, 1, 3), feature), 0);
    }

    private static int doubtful(List<Sample> samples) {
        int found = 0;
        for (Sample one : samples) {
            boolean doubted = false;
            for (Sample other : samples) {
                doubted |= one.features == other.features && one.good != other.good;
            }
            found += doubted ? 1 : 0;
        }
        return found;
    }

    private static int cheapest(int[] table, int price) {
        int least = NONE;
        for (int leaves = 1; leaves < table.length; leaves++) {
            if (table[leaves] < NONE) {
                least = Math.min(least, table[leaves] + price * (leaves - 1));
            }
        }
        return least;
    }

    /** At place n the fewest mistakes of a tree with just n leaves, NONE if there is no such tree. */
    private static int[] fewest(List<Sample> samples, int depth) {
        int[] table = nothing(depth);
        int good = 0;
        for (Sample sample : samples) {
            good += sample.good ? 1 : 0;
        }
        table[1] = Math.min(good, samples.size() - good);
        for (int feature = 0; depth > 0 && feature < 6; feature++) {
            int[] asked = fewestBy(samples, depth, feature);
            for (int leaves = 1; leaves < table.length; leaves++) {
                table[leaves] = Math.min(table[leaves], asked[leaves]);
            }
        }
        return table;
    }

    private static int[] fewestBy(List<Sample> samples, int depth, int feature) {
        List<Sample> no = new ArrayList<>();
        List<Sample> yes = new ArrayList<>();
        for (Sample sample : samples) {
            (sample.says(feature) ? yes : no).add(sample);
        }
        int[] left = fewest(no, depth - 1);
        int[] right = fewest(yes, depth - 1);
        int[] table = nothing(depth);
        for (int a = 1; a < left.length; a++) {
            for (int b = 1; b < right.length; b++) {
                table[a + b] = Math.min(table[a + b], left[a] + right[b]);
            }
        }
        return table;
    }

    private static int[] nothing(int depth) {
        int[] table = new int[(1 << depth) + 1];
        Arrays.fill(table, NONE);
        return table;
    }
}
