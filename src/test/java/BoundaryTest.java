import java.util.ArrayList;
import java.util.Arrays;
import java.util.List;

/**
 * The boundary cases that the document names, each sentence with a test of its own, in the order of
 * the promises. No test makes more than 512 calls on one object.
 */
public final class BoundaryTest {
    private static final int MIN = Integer.MIN_VALUE;
    private static final int MAX = Integer.MAX_VALUE;
    private static final int[] BELOW_0 = {-1, -2, -3, -4, -32, -64, -1000000, MIN / 7, MIN + 1, MIN};
    private static final int[] ABOVE_3 = {4, 5, 6, 7, 8, 32, 33, 64, 1000000, MAX - 1, MAX};
    private static final int[] ABOVE_20 = {21, 22, 24, 25, 32, 48, 64, 1000000, MAX / 7, MAX / 2, MAX - 1, MAX};
    private static final int[] NO_FEATURE = {MIN, MIN + 1, -64, -32, -6, -1, 6, 7, 31, 32, 33, 64, MAX - 1, MAX};

    /** What ladder() answers at the depth d, in place d; a first question has no depth 0. */
    private static final int[] LADDER_MISTAKES = {15, 7, 3, 1};
    private static final int[] LADDER_QUESTION = {-1, 5, 3, 1};
    private static final int[][] LADDER_MISTAKES_BY = {
        {},
        {14, 13, 15, 11, 15, 7},
        {6, 5, 7, 3, 7, 3},
        {2, 1, 3, 1, 3, 1},
    };

    private static final long MOST_MILLIS = 120000;
    private static volatile String test = "";
    private static volatile int tests = 0;
    private static volatile int wrong = 0;

    public static void main(String[] args) {
        runAll();
        System.out.println(tests + " tests, " + wrong + " answers not as due");
        if (wrong != 0) {
            System.exit(1);
        }
    }

    private static void allTests() {
        run("1: no sample", BoundaryTest::newObjectHasNoSample);
        run("1: no sample, smallest and greatest ints", BoundaryTest::newObjectTakesAnyInt);
        run("1: no sample of another object", BoundaryTest::newObjectIsApartFromOthers);

        run("2: answers the number of samples then", BoundaryTest::addAnswersTheNumber);
        run("2: bit f from 0 to 5 is feature f", BoundaryTest::addReadsEachBit);
        run("2: bits beyond 5 are no features", BoundaryTest::addPassesOverOtherBits);
        run("2: smallest and greatest int as features", BoundaryTest::addTakesAnyInt);
        run("2: good or bad", BoundaryTest::addTakesGoodAndBadAlike);
        run("2: -1 if there are 48", BoundaryTest::addIsRefusedAt48);
        run("2: a refused add changes nothing", BoundaryTest::refusedAddChangesNothing);
        run("2: 47 samples leave room for one", BoundaryTest::addTakesTheLastPlace);

        run("3: answers the number of samples then", BoundaryTest::dropAnswersTheNumber);
        run("3: takes the sample with the number out", BoundaryTest::dropTakesThatSampleOut);
        run("3: the ones behind it move one place back", BoundaryTest::dropMovesTheOnesBehind);
        run("3: their features move with them", BoundaryTest::dropMovesFeatures);
        run("3: -1 if there is none, no sample at all", BoundaryTest::dropOfAnEmptyObject);
        run("3: -1 if there is none, a number just outside", BoundaryTest::dropJustOutside);
        run("3: a refused drop changes nothing", BoundaryTest::refusedDropChangesNothing);
        run("3: the last sample can go and 48 can come again", BoundaryTest::dropAllAndFillAgain);

        run("4: depth 0 to 3", BoundaryTest::mistakesOfEachDepth);
        run("4: a lesser depth is taken as 0", BoundaryTest::mistakesBelow0);
        run("4: a greater depth is taken as 3", BoundaryTest::mistakesAbove3);
        run("4: the fewest is the half at most", BoundaryTest::mistakesOfEvenSides);

        run("5: depth 0 to 3, price 0 to 20", BoundaryTest::priceOfEachDepthAndPrice);
        run("5: a lesser depth is taken as 0", BoundaryTest::priceOfDepthBelow0);
        run("5: a greater depth is taken as 3", BoundaryTest::priceOfDepthAbove3);
        run("5: a lesser price is taken as 0", BoundaryTest::priceBelow0);
        run("5: a greater price is taken as 20", BoundaryTest::priceAbove20);
        run("5: depth and price both out of range", BoundaryTest::priceBothOutOfRange);

        run("6: depth 1 to 3", BoundaryTest::questionOfEachDepth);
        run("6: a lesser depth is taken as 1", BoundaryTest::questionBelow1);
        run("6: a greater depth is taken as 3", BoundaryTest::questionAbove3);
        run("6: the least price for price", BoundaryTest::questionOfEachPrice);
        run("6: a price below 0 or above 20", BoundaryTest::questionOfOtherPrices);
        run("6: depth and price both out of range", BoundaryTest::questionBothOutOfRange);
        run("6: the least feature", BoundaryTest::questionIsTheLeastFeature);
        run("6: a lesser price of a leaf does not matter", BoundaryTest::questionThoughALeafIsCheaper);

        run("7: depth 0 to 3", BoundaryTest::leavesOfEachDepth);
        run("7: a lesser depth is taken as 0", BoundaryTest::leavesBelow0);
        run("7: a greater depth is taken as 3", BoundaryTest::leavesAbove3);
        run("7: the fewest leaves", BoundaryTest::leavesAreTheFewest);
        run("7: as few mistakes as mistakes says", BoundaryTest::leavesForASingleMistake);
        run("7: from one leaf to eight", BoundaryTest::leavesFromOneToEight);

        run("8: depth 1 to 3, feature 0 to 5", BoundaryTest::mistakesByEach);
        run("8: a lesser depth is taken as 1", BoundaryTest::mistakesByBelow1);
        run("8: a greater depth is taken as 3", BoundaryTest::mistakesByAbove3);
        run("8: -1 if feature is out of range", BoundaryTest::mistakesByNoFeature);
        run("8: the first question is for the feature", BoundaryTest::mistakesByAFeatureOfNoUse);

        run("9: no sample", BoundaryTest::doubtfulOfNone);
        run("9: no two samples of the same features", BoundaryTest::doubtfulOfAllDifferent);
        run("9: several of the same features on one side", BoundaryTest::doubtfulOnOneSide);
        run("9: several of the same features on both sides", BoundaryTest::doubtfulOnBothSides);
        run("9: the other sample comes or goes", BoundaryTest::doubtfulAfterAddAndDrop);
        run("9: each set of features by itself", BoundaryTest::doubtfulOfEachFeatures);

        run("512 calls: samples come and go in a full object", BoundaryTest::rotationFor512Calls);
        run("512 calls: adds alone", BoundaryTest::addsFor512Calls);
        run("512 calls: drops alone", BoundaryTest::dropsFor512Calls);
        run("512 calls: questions of a full object", BoundaryTest::asksFor512Calls);
    }

    /** Waits for the tests, but not for ever: a call that does not end is a wrong answer too. */
    private static void runAll() {
        Thread worker = new Thread(BoundaryTest::allTests);
        worker.setDaemon(true);
        worker.start();
        try {
            worker.join(MOST_MILLIS);
        } catch (InterruptedException stopped) {
            Thread.currentThread().interrupt();
        }
        if (worker.isAlive()) {
            wrong++;
            System.out.println("promise " + test + ": a call did not end");
        }
    }

    private static void run(String name, Runnable body) {
        test = name;
        tests++;
        try {
            body.run();
        } catch (RuntimeException thrown) {
            wrong++;
            System.out.println("promise " + name + ": a call threw " + thrown);
        }
    }

    private static void due(String call, int got, int want) {
        if (got != want) {
            wrong++;
            System.out.println("promise " + test + ": " + call + " answered " + got + ", due is " + want);
        }
    }

    private static void dueSame(String when, int[] got, int[] want) {
        if (!Arrays.equals(got, want)) {
            wrong++;
            System.out.println("promise " + test + ": " + when + ": " + Arrays.toString(got)
                    + ", due is " + Arrays.toString(want));
        }
    }

    // ---- samples

    private static void addMany(BestTree tree, int times, int features, boolean good) {
        for (int i = 0; i < times; i++) {
            tree.add(features, good);
        }
    }

    /**
     * 48 samples, of which 15 are bad, each for one feature alone: 8 for feature 5, 4 for 3, 2 for 1
     * and 1 for 0. A question more always saves mistakes, up to a depth of 4, and the order of the
     * questions is free, so that every depth from 0 to 4 has answers of its own.
     */
    private static BestTree ladder() {
        BestTree tree = new BestTree();
        addMany(tree, 33, 0, true);
        addMany(tree, 8, 1 << 5, false);
        addMany(tree, 4, 1 << 3, false);
        addMany(tree, 2, 1 << 1, false);
        addMany(tree, 1, 1 << 0, false);
        return tree;
    }

    /** 48 samples: 24 are good, and 24 have feature 4 and are bad. */
    private static BestTree halves() {
        BestTree tree = new BestTree();
        addMany(tree, 24, 0, true);
        addMany(tree, 24, 1 << 4, false);
        return tree;
    }

    /** One sample for each choice of the features, good if it has an odd number of them. */
    private static BestTree parity(int features) {
        BestTree tree = new BestTree();
        for (int chosen = 0; chosen < 64; chosen++) {
            if ((chosen & ~features) == 0) {
                tree.add(chosen, Integer.bitCount(chosen) % 2 == 1);
            }
        }
        return tree;
    }

    /** 55 calls whose answers tell one state from another. */
    private static int[] look(BestTree tree) {
        int[] prices = {0, 1, 3, 20};
        int[] seen = new int[55];
        int next = 0;
        for (int depth = 0; depth <= 3; depth++) {
            seen[next++] = tree.mistakes(depth);
            seen[next++] = tree.leaves(depth);
            for (int price : prices) {
                seen[next++] = tree.price(depth, price);
            }
        }
        for (int depth = 1; depth <= 3; depth++) {
            for (int price : prices) {
                seen[next++] = tree.question(depth, price);
            }
            for (int feature = 0; feature < 6; feature++) {
                seen[next++] = tree.mistakesBy(depth, feature);
            }
        }
        seen[next] = tree.doubtful();
        return seen;
    }

    // ---- promise 1

    private static void newObjectHasNoSample() {
        for (int depth = 0; depth <= 3; depth++) {
            BestTree tree = new BestTree();
            due("mistakes " + depth, tree.mistakes(depth), 0);
            due("leaves " + depth, tree.leaves(depth), 1);
            for (int price = 0; price <= 20; price++) {
                due("price " + depth + ", " + price, tree.price(depth, price), 0);
                due("question " + depth + ", " + price, tree.question(depth, price), 0);
            }
            for (int feature = 0; feature < 6; feature++) {
                due("mistakesBy " + depth + ", " + feature, tree.mistakesBy(depth, feature), 0);
            }
            due("doubtful", tree.doubtful(), 0);
        }
        due("drop 0", new BestTree().drop(0), -1);
        due("add", new BestTree().add(0, true), 1);
    }

    private static void newObjectTakesAnyInt() {
        int[] ends = {MIN, MAX};
        for (int one : ends) {
            BestTree tree = new BestTree();
            due("drop " + one, tree.drop(one), -1);
            due("mistakes " + one, tree.mistakes(one), 0);
            due("leaves " + one, tree.leaves(one), 1);
            for (int other : ends) {
                due("price " + one + ", " + other, tree.price(one, other), 0);
                due("question " + one + ", " + other, tree.question(one, other), 0);
                due("mistakesBy " + one + ", " + other, tree.mistakesBy(one, other), -1);
            }
            due("mistakesBy " + one + ", 0", tree.mistakesBy(one, 0), 0);
            due("mistakesBy " + one + ", 5", tree.mistakesBy(one, 5), 0);
            due("add " + one, tree.add(one, true), 1);
        }
    }

    private static void newObjectIsApartFromOthers() {
        BestTree full = ladder();
        BestTree tree = new BestTree();
        due("mistakes beside a full object", tree.mistakes(0), 0);
        due("add beside a full object", tree.add(0, false), 1);
        due("mistakes of the full object", full.mistakes(0), 15);
        due("drop 1 beside a full object", tree.drop(1), -1);
    }

    // ---- promise 2

    private static void addAnswersTheNumber() {
        boolean[] sides = {false, true};
        for (boolean good : sides) {
            BestTree tree = new BestTree();
            for (int number = 1; number <= 48; number++) {
                due("add number " + number, tree.add(number, good), number);
            }
        }
        BestTree alike = new BestTree();
        for (int number = 1; number <= 48; number++) {
            due("add of the same, number " + number, alike.add(63, true), number);
        }
    }

    private static void addReadsEachBit() {
        for (int feature = 0; feature < 6; feature++) {
            int[] others = {0, 63 & ~(1 << feature)};
            for (int other : others) {
                BestTree tree = new BestTree();
                tree.add(other, false);
                tree.add(other | 1 << feature, true);
                due("doubtful, by bit " + feature, tree.doubtful(), 0);
                for (int asked = 0; asked < 6; asked++) {
                    int want = asked == feature ? 0 : 1;
                    due("mistakesBy 1, " + asked + ", by bit " + feature, tree.mistakesBy(1, asked), want);
                }
            }
        }
    }

    private static void addPassesOverOtherBits() {
        for (int bit = 6; bit < 32; bit++) {
            for (int features = 0; features < 64; features += 21) {
                BestTree tree = new BestTree();
                tree.add(features, false);
                due("add with bit " + bit, tree.add(features | 1 << bit, true), 2);
                due("doubtful with bit " + bit, tree.doubtful(), 2);
                due("mistakes 3 with bit " + bit, tree.mistakes(3), 1);
            }
        }
    }

    private static void addTakesAnyInt() {
        int[] given = {MIN, MIN + 1, -64, -2, -1, 64, MAX - 1, MAX};
        int[] meant = {0, 1, 0, 62, 63, 0, 62, 63};
        for (int i = 0; i < given.length; i++) {
            for (int features = 0; features < 64; features++) {
                BestTree tree = new BestTree();
                due("add " + given[i], tree.add(given[i], true), 1);
                tree.add(features, false);
                int want = features == meant[i] ? 2 : 0;
                due("doubtful of " + given[i] + " and " + features, tree.doubtful(), want);
            }
        }
    }

    private static void addTakesGoodAndBadAlike() {
        BestTree good = new BestTree();
        BestTree bad = new BestTree();
        for (int i = 0; i < 48; i++) {
            boolean side = i % 5 == 0 || (i & 12) == 4;
            good.add(i * 7, side);
            bad.add(i * 7, !side);
        }
        dueSame("sides exchanged", look(bad), look(good));
        BestTree one = new BestTree();
        one.add(9, true);
        one.add(9, true);
        one.add(9, false);
        due("mistakes of two good and one bad", one.mistakes(3), 1);
        one.add(9, false);
        one.add(9, false);
        due("mistakes of two good and three bad", one.mistakes(3), 2);
    }

    private static void addIsRefusedAt48() {
        int[] given = {MIN, -1, 0, 1, 48, 63, 64, MAX};
        BestTree tree = halves();
        for (int features : given) {
            due("add " + features + ", true to 48", tree.add(features, true), -1);
            due("add " + features + ", false to 48", tree.add(features, false), -1);
        }
    }

    private static void refusedAddChangesNothing() {
        BestTree tree = ladder();
        int[] before = look(tree);
        for (int i = 0; i < 60; i++) {
            tree.add(i, i % 2 == 0);
        }
        dueSame("after refused adds", look(tree), before);
        due("drop 48", tree.drop(48), -1);
        due("drop 47", tree.drop(47), 47);
        due("mistakes 0 without the last", tree.mistakes(0), 14);
        due("mistakesBy 1, 0 without the last", tree.mistakesBy(1, 0), 14);
    }

    private static void addTakesTheLastPlace() {
        BestTree tree = new BestTree();
        addMany(tree, 47, 12, true);
        due("add to 47", tree.add(12, false), 48);
        due("doubtful of 48", tree.doubtful(), 48);
        due("add to 48", tree.add(12, false), -1);
        due("drop 0", tree.drop(0), 47);
        due("add to 47 again", tree.add(12, false), 48);
        due("mistakes 0", tree.mistakes(0), 2);
        due("add to 48 again", tree.add(12, false), -1);
    }

    // ---- promise 3

    private static void dropAnswersTheNumber() {
        BestTree fromFront = ladder();
        BestTree fromBack = ladder();
        for (int left = 47; left >= 0; left--) {
            due("drop of the first", fromFront.drop(0), left);
            due("drop of the last", fromBack.drop(left), left);
        }
    }

    private static void dropTakesThatSampleOut() {
        int[] numbers = {0, 1, 23, 46, 47};
        for (int number : numbers) {
            BestTree tree = new BestTree();
            BestTree without = new BestTree();
            for (int i = 0; i < 48; i++) {
                boolean good = i * i % 7 < 3;
                tree.add(i, good);
                if (i != number) {
                    without.add(i, good);
                }
            }
            due("drop " + number + " of 48", tree.drop(number), 47);
            dueSame("after drop " + number, look(tree), look(without));
        }
    }

    private static void dropMovesTheOnesBehind() {
        int[] sizes = {4, 7, 47, 48};
        for (int size : sizes) {
            for (int place = 0; place < size; place++) {
                for (int number = 0; number < size; number++) {
                    dropThenTheGoodOne(size, place, number);
                }
            }
        }
    }

    /** Among bad samples, the good one is at its new number if mistakes(0) is 0 without it. */
    private static void dropThenTheGoodOne(int size, int place, int number) {
        String run = "good at " + place + " of " + size + ", drop " + number;
        BestTree tree = new BestTree();
        for (int i = 0; i < size; i++) {
            tree.add(i, i == place);
        }
        due(run, tree.drop(number), size - 1);
        due(run + ", mistakes 0", tree.mistakes(0), place == number ? 0 : 1);
        if (place != number) {
            int moved = place > number ? place - 1 : place;
            due(run + ", drop " + moved, tree.drop(moved), size - 2);
            due(run + ", drop " + moved + ", mistakes 0", tree.mistakes(0), 0);
        }
    }

    private static void dropMovesFeatures() {
        for (int number = 0; number < 48; number++) {
            BestTree tree = new BestTree();
            for (int features = 0; features < 48; features++) {
                tree.add(features, true);
            }
            due("drop " + number + " of 48", tree.drop(number), 47);
            due("add", tree.add(47, false), 48);
            due("drop " + number + ", doubtful", tree.doubtful(), number == 47 ? 0 : 2);
            due("drop 46", tree.drop(46), 47);
            due("drop " + number + ", doubtful without number 46", tree.doubtful(), 0);
        }
    }

    private static void dropOfAnEmptyObject() {
        int[] numbers = {MIN, MIN + 1, -1, 0, 1, 47, 48, MAX - 1, MAX};
        BestTree fresh = new BestTree();
        BestTree emptied = new BestTree();
        emptied.add(3, true);
        emptied.drop(0);
        for (int number : numbers) {
            due("new object, drop " + number, fresh.drop(number), -1);
            due("emptied object, drop " + number, emptied.drop(number), -1);
        }
        due("new object, add", fresh.add(0, true), 1);
        due("emptied object, add", emptied.add(0, true), 1);
    }

    private static void dropJustOutside() {
        BestTree tree = new BestTree();
        for (int held = 0; held <= 48; held++) {
            due("drop -1 of " + held, tree.drop(-1), -1);
            due("drop " + held + " of " + held, tree.drop(held), -1);
            due("drop " + (held + 1) + " of " + held, tree.drop(held + 1), -1);
            due("drop smallest of " + held, tree.drop(MIN), -1);
            due("drop greatest of " + held, tree.drop(MAX), -1);
            due("add to " + held, tree.add(held, true), held < 48 ? held + 1 : -1);
        }
        // A number that a sample had before the drops is no number of a sample any more.
        BestTree shrunk = ladder();
        for (int left = 47; left >= 0; left--) {
            shrunk.drop(0);
            due("drop " + left + " of " + left + " left", shrunk.drop(left), -1);
            due("drop 47 of " + left + " left", shrunk.drop(47), -1);
        }
    }

    private static void refusedDropChangesNothing() {
        int[] numbers = {MIN, MIN + 1, -48, -1, 48, 49, 64, MAX - 1, MAX};
        BestTree tree = ladder();
        int[] before = look(tree);
        for (int number : numbers) {
            due("drop " + number + " of 48", tree.drop(number), -1);
        }
        dueSame("after refused drops", look(tree), before);
        due("add after refused drops", tree.add(0, true), -1);
        due("drop 47 after refused drops", tree.drop(47), 47);
    }

    private static void dropAllAndFillAgain() {
        BestTree tree = halves();
        for (int left = 47; left >= 0; left--) {
            due("drop", tree.drop(left / 2), left);
        }
        dueSame("emptied", look(tree), look(new BestTree()));
        BestTree once = ladder();
        addMany(tree, 33, 0, true);
        addMany(tree, 8, 1 << 5, false);
        addMany(tree, 4, 1 << 3, false);
        addMany(tree, 2, 1 << 1, false);
        due("add number 48 again", tree.add(1, false), 48);
        due("add number 49 again", tree.add(1, false), -1);
        dueSame("filled again", look(tree), look(once));
    }

    // ---- promise 4

    private static void mistakesOfEachDepth() {
        BestTree tree = ladder();
        for (int depth = 0; depth <= 3; depth++) {
            due("mistakes " + depth, tree.mistakes(depth), LADDER_MISTAKES[depth]);
        }
    }

    private static void mistakesBelow0() {
        BestTree tree = ladder();
        for (int depth : BELOW_0) {
            due("mistakes " + depth, tree.mistakes(depth), 15);
        }
    }

    private static void mistakesAbove3() {
        BestTree tree = ladder();
        BestTree four = parity(0b110110);
        for (int depth : ABOVE_3) {
            due("mistakes " + depth, tree.mistakes(depth), 1);
            due("parity of four, mistakes " + depth, four.mistakes(depth), 8);
        }
    }

    private static void mistakesOfEvenSides() {
        BestTree alike = new BestTree();
        for (int i = 0; i < 48; i++) {
            alike.add(21, i % 2 == 0);
        }
        for (int depth = 0; depth <= 3; depth++) {
            due("all alike, mistakes " + depth, alike.mistakes(depth), 24);
            due("halves, mistakes " + depth, halves().mistakes(depth), depth == 0 ? 24 : 0);
        }
    }

    // ---- promise 5

    private static int ladderPrice(int depth, int price) {
        int least = LADDER_MISTAKES[0];
        for (int questions = 1; questions <= depth; questions++) {
            least = Math.min(least, LADDER_MISTAKES[questions] + price * questions);
        }
        return least;
    }

    private static void priceOfEachDepthAndPrice() {
        BestTree tree = ladder();
        BestTree halves = halves();
        for (int depth = 0; depth <= 3; depth++) {
            for (int price = 0; price <= 20; price++) {
                String call = "price " + depth + ", " + price;
                due(call, tree.price(depth, price), ladderPrice(depth, price));
                due("halves, " + call, halves.price(depth, price), depth == 0 ? 24 : price);
            }
        }
    }

    private static void priceOfDepthBelow0() {
        BestTree tree = ladder();
        for (int depth : BELOW_0) {
            for (int price = 0; price <= 20; price += 4) {
                due("price " + depth + ", " + price, tree.price(depth, price), 15);
            }
        }
    }

    private static void priceOfDepthAbove3() {
        BestTree tree = ladder();
        for (int depth : ABOVE_3) {
            due("price " + depth + ", 0", tree.price(depth, 0), 1);
            due("price " + depth + ", 1", tree.price(depth, 1), 4);
            due("price " + depth + ", 20", tree.price(depth, 20), 15);
        }
    }

    private static void priceBelow0() {
        BestTree tree = ladder();
        for (int price : BELOW_0) {
            for (int depth = 0; depth <= 3; depth++) {
                due("price " + depth + ", " + price, tree.price(depth, price), LADDER_MISTAKES[depth]);
            }
        }
    }

    private static void priceAbove20() {
        BestTree tree = halves();
        for (int price : ABOVE_20) {
            due("price 0, " + price, tree.price(0, price), 24);
            for (int depth = 1; depth <= 3; depth++) {
                due("price " + depth + ", " + price, tree.price(depth, price), 20);
            }
        }
    }

    private static void priceBothOutOfRange() {
        BestTree tree = halves();
        BestTree ladder = ladder();
        for (int small : BELOW_0) {
            due("price " + small + ", " + small, tree.price(small, small), 24);
            due("price " + small + ", greatest", tree.price(small, MAX), 24);
            due("ladder, price greatest, " + small, ladder.price(MAX, small), 1);
        }
        for (int large : ABOVE_20) {
            due("price " + large + ", " + large, tree.price(large, large), 20);
            due("price " + large + ", smallest", tree.price(large, MIN), 0);
            due("ladder, price smallest, " + large, ladder.price(MIN, large), 15);
        }
    }

    // ---- promise 6

    private static void questionOfEachDepth() {
        BestTree tree = ladder();
        for (int depth = 1; depth <= 3; depth++) {
            due("question " + depth + ", 0", tree.question(depth, 0), LADDER_QUESTION[depth]);
        }
    }

    private static void questionBelow1() {
        BestTree tree = ladder();
        due("question 0, 0", tree.question(0, 0), 5);
        due("question 0, 20", tree.question(0, 20), 5);
        for (int depth : BELOW_0) {
            due("question " + depth + ", 0", tree.question(depth, 0), 5);
            due("question " + depth + ", 20", tree.question(depth, 20), 5);
        }
    }

    private static void questionAbove3() {
        BestTree tree = ladder();
        BestTree four = parity(0b011110);
        for (int depth : ABOVE_3) {
            due("question " + depth + ", 0", tree.question(depth, 0), 1);
            due("question " + depth + ", 3", tree.question(depth, 3), 3);
            due("parity of four, question " + depth + ", 0", four.question(depth, 0), 0);
        }
    }

    private static void questionOfEachPrice() {
        // Two questions cost no more than three from price 2 on, and one no more than two from 4
        // on; at these prices themselves both are among the cheapest, and the lesser feature wins.
        BestTree tree = ladder();
        for (int price = 0; price <= 20; price++) {
            int byThree = price <= 2 ? 1 : price <= 4 ? 3 : 5;
            due("question 1, " + price, tree.question(1, price), 5);
            due("question 2, " + price, tree.question(2, price), price <= 4 ? 3 : 5);
            due("question 3, " + price, tree.question(3, price), byThree);
        }
        // Features 3 and 5 save 24 mistakes together, and each alone none. A first question for
        // feature 0 loses a question: nothing at price 0, and nothing if no other one is worth it.
        BestTree both = new BestTree();
        addMany(both, 12, 0b000000, true);
        addMany(both, 12, 0b001000, false);
        addMany(both, 12, 0b100000, false);
        addMany(both, 12, 0b101000, true);
        for (int price = 0; price <= 20; price++) {
            due("both, question 1, " + price, both.question(1, price), 0);
            due("both, question 2, " + price, both.question(2, price), price < 12 ? 3 : 0);
            due("both, question 3, " + price, both.question(3, price), price > 0 && price < 12 ? 3 : 0);
        }
    }

    private static void questionOfOtherPrices() {
        // Beyond 0 and 20 no price changes the answer, so one that isn't taken as the nearest is
        // seen only where it is too large to be counted with.
        BestTree tree = ladder();
        for (int depth = 1; depth <= 3; depth++) {
            for (int price : BELOW_0) {
                due("question " + depth + ", " + price, tree.question(depth, price), LADDER_QUESTION[depth]);
            }
            for (int price : ABOVE_20) {
                due("question " + depth + ", " + price, tree.question(depth, price), 5);
            }
        }
    }

    private static void questionBothOutOfRange() {
        BestTree tree = ladder();
        for (int small : BELOW_0) {
            due("question " + small + ", " + small, tree.question(small, small), 5);
            due("question greatest, " + small, tree.question(MAX, small), 1);
        }
        for (int large : ABOVE_20) {
            due("question " + large + ", " + large, tree.question(large, large), 5);
            due("question " + large + ", smallest", tree.question(large, MIN), 1);
            due("question smallest, " + large, tree.question(MIN, large), 5);
        }
    }

    private static void questionIsTheLeastFeature() {
        for (int features = 1; features < 64; features++) {
            int least = Integer.numberOfTrailingZeros(features);
            BestTree tree = new BestTree();
            addMany(tree, 24, 0, false);
            addMany(tree, 24, features, true);
            due("differ by " + features + ", question 1, 0", tree.question(1, 0), least);
            for (int depth = 1; depth <= 3; depth++) {
                due("differ by " + features + ", question " + depth + ", 1", tree.question(depth, 1), least);
                due("differ by " + features + ", question " + depth + ", 20", tree.question(depth, 20), least);
            }
        }
        BestTree alike = new BestTree();
        addMany(alike, 24, 63, false);
        addMany(alike, 24, 63, true);
        due("all alike, question 3, 20", alike.question(3, 20), 0);
    }

    private static void questionThoughALeafIsCheaper() {
        for (int feature = 0; feature < 6; feature++) {
            BestTree tree = new BestTree();
            addMany(tree, 47, 0, true);
            tree.add(1 << feature, false);
            for (int depth = 1; depth <= 3; depth++) {
                due("price " + depth + ", 20", tree.price(depth, 20), 1);
                for (int price = 1; price <= 20; price++) {
                    due("question " + depth + ", " + price, tree.question(depth, price), feature);
                }
            }
        }
        BestTree good = new BestTree();
        addMany(good, 48, 62, true);
        due("all good, question 1, 20", good.question(1, 20), 0);
        due("all good, question 3, 20", good.question(3, 20), 0);
    }

    // ---- promise 7

    private static void leavesOfEachDepth() {
        BestTree tree = ladder();
        for (int depth = 0; depth <= 3; depth++) {
            due("leaves " + depth, tree.leaves(depth), depth + 1);
        }
    }

    private static void leavesBelow0() {
        BestTree tree = ladder();
        for (int depth : BELOW_0) {
            due("leaves " + depth, tree.leaves(depth), 1);
        }
    }

    private static void leavesAbove3() {
        BestTree tree = ladder();
        BestTree three = parity(0b100101);
        BestTree four = parity(0b111100);
        for (int depth : ABOVE_3) {
            due("leaves " + depth, tree.leaves(depth), 4);
            due("parity of three, leaves " + depth, three.leaves(depth), 8);
            due("parity of four, leaves " + depth, four.leaves(depth), 1);
        }
    }

    private static void leavesAreTheFewest() {
        // Feature 2 tells whether feature 0 or 1 decides: asked first, it needs four leaves for no
        // mistake; another one first needs six.
        BestTree tree = new BestTree();
        for (int features = 0; features < 8; features++) {
            int decides = (features & 4) == 0 ? 1 : 2;
            addMany(tree, 6, features, (features & decides) != 0);
        }
        due("mistakesBy 3, 0", tree.mistakesBy(3, 0), 0);
        due("leaves 2", tree.leaves(2), 4);
        due("leaves 3", tree.leaves(3), 4);
        BestTree useless = new BestTree();
        addMany(useless, 30, 0, true);
        addMany(useless, 10, 63, true);
        addMany(useless, 8, 63, false);
        for (int depth = 0; depth <= 3; depth++) {
            due("no question of use, leaves " + depth, useless.leaves(depth), 1);
            due("halves, leaves " + depth, halves().leaves(depth), depth == 0 ? 1 : 2);
        }
    }

    private static void leavesForASingleMistake() {
        // To save the one mistake takes three questions, and is due all the same.
        BestTree tree = new BestTree();
        addMany(tree, 44, 0, true);
        tree.add(0b110, true);
        tree.add(0b101, true);
        tree.add(0b011, true);
        tree.add(0b111, false);
        int[] wants = {1, 1, 1, 4};
        int[] mistakes = {1, 1, 1, 0};
        for (int depth = 0; depth <= 3; depth++) {
            due("mistakes " + depth, tree.mistakes(depth), mistakes[depth]);
            due("leaves " + depth, tree.leaves(depth), wants[depth]);
        }
    }

    private static void leavesFromOneToEight() {
        // Row by row over features 0, 2 and 4, with as many leaves as are due at least.
        int[] wants = {1, 2, 3, 4, 5, 6, 7, 8};
        int[] goods = {0b00000000, 0b10101010, 0b10001000, 0b10000000, 0b10011000, 0b00011000, 0b10000110, 0b01101001};
        for (int i = 0; i < wants.length; i++) {
            BestTree tree = new BestTree();
            for (int row = 0; row < 8; row++) {
                int features = row & 1 | (row & 2) << 1 | (row & 4) << 2;
                addMany(tree, 6, features, (goods[i] >> row & 1) == 1);
            }
            due("rows " + goods[i] + ", mistakes 3", tree.mistakes(3), 0);
            due("rows " + goods[i] + ", leaves 3", tree.leaves(3), wants[i]);
        }
    }

    // ---- promise 8

    private static void mistakesByEach() {
        BestTree tree = ladder();
        for (int depth = 1; depth <= 3; depth++) {
            for (int feature = 0; feature < 6; feature++) {
                int want = LADDER_MISTAKES_BY[depth][feature];
                due("mistakesBy " + depth + ", " + feature, tree.mistakesBy(depth, feature), want);
            }
        }
    }

    private static void mistakesByBelow1() {
        BestTree tree = ladder();
        for (int feature = 0; feature < 6; feature++) {
            int want = LADDER_MISTAKES_BY[1][feature];
            due("mistakesBy 0, " + feature, tree.mistakesBy(0, feature), want);
            for (int depth : BELOW_0) {
                due("mistakesBy " + depth + ", " + feature, tree.mistakesBy(depth, feature), want);
            }
        }
    }

    private static void mistakesByAbove3() {
        BestTree tree = ladder();
        for (int feature = 0; feature < 6; feature++) {
            int want = LADDER_MISTAKES_BY[3][feature];
            for (int depth : ABOVE_3) {
                due("mistakesBy " + depth + ", " + feature, tree.mistakesBy(depth, feature), want);
            }
        }
    }

    private static void mistakesByNoFeature() {
        int[] depths = {MIN, -1, 0, 1, 2, 3, 4, MAX};
        BestTree none = new BestTree();
        BestTree full = ladder();
        for (int feature : NO_FEATURE) {
            for (int depth : depths) {
                due("no sample, mistakesBy " + depth + ", " + feature, none.mistakesBy(depth, feature), -1);
                due("48 samples, mistakesBy " + depth + ", " + feature, full.mistakesBy(depth, feature), -1);
            }
        }
        due("mistakes 3 afterwards", full.mistakes(3), 1);
    }

    private static void mistakesByAFeatureOfNoUse() {
        BestTree tree = parity(0b000111);
        for (int feature = 0; feature < 6; feature++) {
            due("parity of three, mistakesBy 2, " + feature, tree.mistakesBy(2, feature), 4);
            due("parity of three, mistakesBy 3, " + feature, tree.mistakesBy(3, feature), feature < 3 ? 0 : 4);
        }
    }

    // ---- promise 9

    private static void doubtfulOfNone() {
        due("new object, doubtful", new BestTree().doubtful(), 0);
        BestTree tree = new BestTree();
        tree.add(6, true);
        due("one sample, doubtful", tree.doubtful(), 0);
        tree.add(6, false);
        tree.drop(0);
        tree.drop(0);
        due("emptied object, doubtful", tree.doubtful(), 0);
    }

    private static void doubtfulOfAllDifferent() {
        for (int first = 0; first <= 16; first++) {
            BestTree tree = new BestTree();
            for (int features = first; features < first + 48; features++) {
                tree.add(features, features % 2 == 0);
            }
            due("48 different ones, doubtful", tree.doubtful(), 0);
        }
    }

    private static void doubtfulOnOneSide() {
        BestTree good = new BestTree();
        BestTree bad = new BestTree();
        for (int i = 0; i < 48; i++) {
            good.add(40, true);
            bad.add(40, false);
            due("good alone, doubtful", good.doubtful(), 0);
            due("bad alone, doubtful", bad.doubtful(), 0);
        }
        due("halves, doubtful", halves().doubtful(), 0);
    }

    private static void doubtfulOnBothSides() {
        for (int goods = 0; goods <= 48; goods++) {
            BestTree tree = new BestTree();
            addMany(tree, goods, 17, true);
            addMany(tree, 48 - goods, 17, false);
            due(goods + " good of 48, doubtful", tree.doubtful(), goods == 0 || goods == 48 ? 0 : 48);
        }
        BestTree mixed = new BestTree();
        addMany(mixed, 3, 0, true);
        addMany(mixed, 2, 0, false);
        addMany(mixed, 4, 1, true);
        addMany(mixed, 1, 63, false);
        addMany(mixed, 6, 63, true);
        addMany(mixed, 5, 62, false);
        due("two sets of features in doubt, doubtful", mixed.doubtful(), 12);
    }

    private static void doubtfulAfterAddAndDrop() {
        BestTree tree = new BestTree();
        addMany(tree, 47, 33, true);
        due("before, doubtful", tree.doubtful(), 0);
        tree.add(33, false);
        due("with the other, doubtful", tree.doubtful(), 48);
        due("refused add", tree.add(33, false), -1);
        tree.drop(0);
        due("one good gone, doubtful", tree.doubtful(), 47);
        tree.drop(46);
        due("the other gone, doubtful", tree.doubtful(), 0);
    }

    private static void doubtfulOfEachFeatures() {
        for (int features = 0; features < 64; features++) {
            BestTree tree = new BestTree();
            tree.add(features, true);
            tree.add(features + 64, false);
            for (int feature = 0; feature < 6; feature++) {
                tree.add(features ^ 1 << feature, feature % 2 == 0);
            }
            due("one pair at " + features + ", doubtful", tree.doubtful(), 2);
        }
    }

    // ---- an object used for 512 calls

    private static void rotationFor512Calls() {
        BestTree tree = new BestTree();
        List<Integer> held = new ArrayList<>();
        for (int i = 0; i < 48; i++) {
            due("call " + (i + 1) + ", add", tree.add(i, i % 3 == 0), i + 1);
            held.add(i);
        }
        for (int i = 0; i < 204; i++) {
            int number = i * 31 % 48;
            int features = i * 13 % 64;
            due("call " + (2 * i + 49) + ", drop", tree.drop(number), 47);
            held.remove(number);
            due("call " + (2 * i + 50) + ", add", tree.add(features, features % 3 == 0), 48);
            held.add(features);
        }
        BestTree same = new BestTree();
        for (int features : held) {
            same.add(features, features % 3 == 0);
        }
        dueSame("calls 457 to 511", look(tree), look(same));
        due("call 512, add", tree.add(0, true), -1);
    }

    private static void addsFor512Calls() {
        BestTree tree = new BestTree();
        for (int call = 1; call <= 512; call++) {
            due("call " + call + ", add", tree.add(call, call % 2 == 0), call <= 48 ? call : -1);
        }
    }

    private static void dropsFor512Calls() {
        BestTree tree = ladder();
        for (int call = 49; call <= 512; call++) {
            due("call " + call + ", drop 0", tree.drop(0), call <= 96 ? 96 - call : -1);
        }
    }

    private static void asksFor512Calls() {
        BestTree tree = ladder();
        for (int round = 0; round < 77; round++) {
            due("round " + round + ", mistakes 3", tree.mistakes(3), 1);
            due("round " + round + ", price 3, 1", tree.price(3, 1), 4);
            due("round " + round + ", question 3, 0", tree.question(3, 0), 1);
            due("round " + round + ", leaves 3", tree.leaves(3), 4);
            due("round " + round + ", mistakesBy 3, 0", tree.mistakesBy(3, 0), 2);
            due("round " + round + ", doubtful", tree.doubtful(), 0);
        }
        due("call 511, mistakes 0", tree.mistakes(0), 15);
        due("call 512, drop 47", tree.drop(47), 47);
    }
}
