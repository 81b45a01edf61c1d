/** Each promise of the document by itself: ordinary inputs, named edges and wrong inputs. */
public final class PromiseTest {
    private static final int[] FAR = {Integer.MIN_VALUE, -1000000, -2, -1};
    private static final int[] BEYOND = {1000000, Integer.MAX_VALUE - 1, Integer.MAX_VALUE};
    private static final int PROMISES = 9;
    private static final int[] ANSWERS = new int[PROMISES + 1];
    private static final int[] WRONG = new int[PROMISES + 1];
    private static int promise = 0;

    public static void main(String[] args) {
        run(1, PromiseTest::newObject);
        run(1, PromiseTest::objectsAreApart);
        run(2, PromiseTest::addCountsUpTo48);
        run(2, PromiseTest::addTakesTheSixLowestBits);
        run(2, PromiseTest::addThatIsRefusedChangesNothing);
        run(3, PromiseTest::dropMovesTheOnesBehind);
        run(3, PromiseTest::featuresMoveToo);
        run(3, PromiseTest::dropOfNoSampleChangesNothing);
        run(3, PromiseTest::dropMakesRoom);
        run(4, PromiseTest::mistakesByDepth);
        run(5, PromiseTest::priceWeighsQuestions);
        run(5, PromiseTest::priceIsTakenAsTheNearest);
        run(6, PromiseTest::questionIsTheLeastFeature);
        run(6, PromiseTest::questionDependsOnDepthAndPrice);
        run(6, PromiseTest::questionWhenALeafIsCheaper);
        run(7, PromiseTest::leavesAreTheFewest);
        run(7, PromiseTest::leavesOfAFullTree);
        run(8, PromiseTest::mistakesByEachFeature);
        run(9, PromiseTest::doubtfulCountsBothSides);
        for (int asked = 4; asked <= PROMISES; asked++) {
            run(asked, PromiseTest::askingChangesNothing);
        }
        if (!allHold()) {
            System.exit(1);
        }
    }

    private static void run(int number, Runnable test) {
        promise = number;
        try {
            test.run();
        } catch (RuntimeException thrown) {
            WRONG[promise]++;
            System.out.println("promise " + promise + ": a call threw " + thrown);
        }
    }

    private static boolean allHold() {
        boolean hold = true;
        for (int number = 1; number <= PROMISES; number++) {
            System.out.println("promise " + number + ": " + ANSWERS[number] + " answers, " + WRONG[number] + " not as due");
            hold &= ANSWERS[number] > 0 && WRONG[number] == 0;
        }
        return hold;
    }

    private static void due(String what, int got, int want) {
        ANSWERS[promise]++;
        if (got != want) {
            WRONG[promise]++;
            System.out.println("promise " + promise + ": " + what + " answered " + got + ", due is " + want);
        }
    }

    private static void addMany(BestTree tree, int times, int features, boolean good) {
        for (int i = 0; i < times; i++) {
            tree.add(features, good);
        }
    }

    /** Good if an odd number of the asked features is yes; one sample of each kind. */
    private static BestTree parity(int asked) {
        BestTree tree = new BestTree();
        for (int features = 0; features < 64; features++) {
            if ((features & ~asked) == 0) {
                tree.add(features, Integer.bitCount(features) % 2 == 1);
            }
        }
        return tree;
    }

    private static void newObject() {
        due("new: drop(0)", new BestTree().drop(0), -1);
        due("new: doubtful()", new BestTree().doubtful(), 0);
        for (int depth = -1; depth <= 4; depth++) {
            BestTree tree = new BestTree();
            due("new: mistakes " + depth, tree.mistakes(depth), 0);
            due("new: price " + depth, tree.price(depth, 20), 0);
            due("new: question " + depth, tree.question(depth, 20), 0);
            due("new: leaves " + depth, tree.leaves(depth), 1);
            due("new: mistakesBy " + depth, tree.mistakesBy(depth, 5), 0);
        }
        due("new: add", new BestTree().add(0, false), 1);
    }

    private static void addCountsUpTo48() {
        BestTree tree = new BestTree();
        for (int i = 1; i <= 48; i++) {
            due("add number " + i, tree.add(i, i % 3 == 0), i);
        }
        due("add number 49", tree.add(0, true), -1);
        due("add number 50", tree.add(0, false), -1);
    }

    private static void addTakesTheSixLowestBits() {
        int[] same = {5, 5 + 64, 5 + 128, 5 | Integer.MIN_VALUE, 5 - 64, 0x7fffffc5};
        for (int features : same) {
            BestTree tree = new BestTree();
            tree.add(5, true);
            due("add " + features, tree.add(features, false), 2);
            due("doubtful after add " + features, tree.doubtful(), 2);
            due("mistakes after add " + features, tree.mistakes(3), 1);
        }
        for (int feature = 0; feature < 6; feature++) {
            BestTree tree = new BestTree();
            tree.add(0, true);
            tree.add(1 << feature, false);
            due("doubtful with feature " + feature, tree.doubtful(), 0);
            due("question with feature " + feature, tree.question(1, 0), feature);
            due("mistakes with feature " + feature, tree.mistakes(1), 0);
        }
    }

    private static void addThatIsRefusedChangesNothing() {
        BestTree tree = new BestTree();
        addMany(tree, 48, 9, true);
        for (int i = 0; i < 5; i++) {
            due("add to 48", tree.add(9, false), -1);
        }
        due("mistakes after refused add", tree.mistakes(0), 0);
        due("doubtful after refused add", tree.doubtful(), 0);
        due("drop after refused add", tree.drop(47), 47);
        due("drop of what is no longer there", tree.drop(47), -1);
    }

    private static void dropMovesTheOnesBehind() {
        // With one good sample among bad ones, mistakes(0) tells whether the good one is still in.
        for (int place = 0; place < 5; place++) {
            for (int number = 0; number < 5; number++) {
                BestTree tree = new BestTree();
                for (int i = 0; i < 5; i++) {
                    tree.add(i, i == place);
                }
                String run = "good at " + place + ", drop " + number;
                due(run, tree.drop(number), 4);
                due(run + ": mistakes", tree.mistakes(0), number == place ? 0 : 1);
                if (number != place) {
                    int moved = number < place ? place - 1 : place;
                    due(run + ": again", tree.drop(moved), 3);
                    due(run + ": mistakes again", tree.mistakes(0), 0);
                }
            }
        }
    }

    private static void featuresMoveToo() {
        BestTree tree = new BestTree();
        tree.add(1, true);
        tree.add(2, true);
        tree.add(4, true);
        tree.add(4, false);
        due("drop(0) of four", tree.drop(0), 3);
        due("doubtful before the pair is broken", tree.doubtful(), 2);
        due("drop(1) of three", tree.drop(1), 2);
        due("doubtful after the pair is broken", tree.doubtful(), 0);
        due("question after drops", tree.question(1, 0), 1);
        due("drop(1) of two", tree.drop(1), 1);
        due("drop(0) of one", tree.drop(0), 0);
        due("drop(0) of none", tree.drop(0), -1);
    }

    private static void dropOfNoSampleChangesNothing() {
        int[] none = {Integer.MIN_VALUE, -48, -1, 2, 3, 47, 48, 49, 1000, Integer.MAX_VALUE};
        BestTree tree = new BestTree();
        tree.add(7, true);
        tree.add(7, false);
        for (int number : none) {
            due("drop(" + number + ") of two", tree.drop(number), -1);
        }
        due("doubtful after refused drops", tree.doubtful(), 2);
        due("mistakes after refused drops", tree.mistakes(3), 1);
        due("add after refused drops", tree.add(7, true), 3);
    }

    private static void dropMakesRoom() {
        BestTree tree = new BestTree();
        addMany(tree, 48, 0, true);
        due("drop(48) of 48", tree.drop(48), -1);
        due("drop(0) of 48", tree.drop(0), 47);
        due("add into the room", tree.add(0, false), 48);
        due("add without room", tree.add(0, false), -1);
        due("doubtful in full", tree.doubtful(), 48);
        due("drop of the last", tree.drop(47), 47);
        due("doubtful without the last", tree.doubtful(), 0);
    }

    private static void mistakesByDepth() {
        BestTree tree = parity(0b101010);
        int[] wants = {4, 4, 4, 0};
        for (int depth = 0; depth <= 3; depth++) {
            due("parity of three: mistakes " + depth, tree.mistakes(depth), wants[depth]);
        }
        BestTree two = parity(0b010010);
        int[] wantsOfTwo = {2, 2, 0, 0};
        for (int depth = 0; depth <= 3; depth++) {
            due("parity of two: mistakes " + depth, two.mistakes(depth), wantsOfTwo[depth]);
        }
        due("parity of four: mistakes 3", parity(0b110011).mistakes(3), 8);
        for (int depth : FAR) {
            due("mistakes " + depth, tree.mistakes(depth), 4);
        }
        for (int depth : BEYOND) {
            due("mistakes " + depth, tree.mistakes(depth), 0);
        }
        due("parity of four: mistakes 4", parity(0b110011).mistakes(4), 8);
    }

    /** A leaf has 20 mistakes, feature 5 alone 4, features 5 and 2 together none. */
    private static BestTree steps() {
        BestTree tree = new BestTree();
        addMany(tree, 24, 0, true);
        addMany(tree, 4, 4, false);
        addMany(tree, 16, 32, false);
        return tree;
    }

    private static void priceWeighsQuestions() {
        for (int price = 0; price <= 20; price++) {
            int oneQuestion = 4 + price;
            int best = Math.min(20, Math.min(oneQuestion, 2 * price));
            due("steps: price 0, " + price, steps().price(0, price), 20);
            due("steps: price 1, " + price, steps().price(1, price), Math.min(20, oneQuestion));
            due("steps: price 2, " + price, steps().price(2, price), best);
            due("steps: price 3, " + price, steps().price(3, price), best);
        }
        due("parity of three: price 3, 0", parity(7).price(3, 0), 0);
        due("parity of three: price 3, 1", parity(7).price(3, 1), 4);
    }

    private static void priceIsTakenAsTheNearest() {
        BestTree tree = new BestTree();
        addMany(tree, 24, 0, true);
        addMany(tree, 24, 8, false);
        due("halves: price 3, 19", tree.price(3, 19), 19);
        due("halves: price 3, 20", tree.price(3, 20), 20);
        due("halves: price 3, 21", tree.price(3, 21), 20);
        for (int far : FAR) {
            due("halves: price 3, " + far, tree.price(3, far), 0);
            due("halves: price " + far + ", 20", tree.price(far, 20), 24);
        }
        for (int beyond : BEYOND) {
            due("halves: price 3, " + beyond, tree.price(3, beyond), 20);
            due("halves: price " + beyond + ", 20", tree.price(beyond, 20), 20);
        }
    }

    private static void questionIsTheLeastFeature() {
        for (int first = 0; first < 6; first++) {
            for (int second = first; second < 6; second++) {
                BestTree tree = new BestTree();
                tree.add(0, false);
                tree.add(1 << first | 1 << second, true);
                for (int depth = -1; depth <= 1; depth++) {
                    due("two features: question " + depth, tree.question(depth, 0), first);
                }
                due("two features: question 3, 20", tree.question(3, 20), first);
            }
        }
        due("parity of 3 and 5: question 2", parity(0b101000).question(2, 0), 3);
        due("parity of 3 and 5: question 1", parity(0b101000).question(1, 0), 0);
        due("parity of 3 and 5: question 3", parity(0b101000).question(3, 0), 0);
        due("parity of 3 and 5: question 3, 1", parity(0b101000).question(3, 1), 0);
    }

    /** Feature 4 alone has 5 mistakes; three questions for features 1 and 3, either first, none. */
    private static BestTree crossing() {
        BestTree tree = new BestTree();
        addMany(tree, 5, 0b000000, false);
        addMany(tree, 5, 0b011010, false);
        addMany(tree, 5, 0b010010, true);
        addMany(tree, 5, 0b011000, true);
        return tree;
    }

    private static void questionDependsOnDepthAndPrice() {
        due("crossing: question 1, 0", crossing().question(1, 0), 4);
        due("crossing: question 2, 0", crossing().question(2, 0), 1);
        due("crossing: question 2, 1", crossing().question(2, 1), 1);
        due("crossing: question 3, 2", crossing().question(3, 2), 1);
        due("crossing: question 3, 3", crossing().question(3, 3), 4);
        due("crossing: question 3, 20", crossing().question(3, 20), 4);
        for (int far : FAR) {
            due("crossing: question " + far + ", 0", crossing().question(far, 0), 4);
            due("crossing: question 2, " + far, crossing().question(2, far), 1);
        }
        for (int beyond : BEYOND) {
            due("crossing: question " + beyond + ", 1", crossing().question(beyond, 1), 1);
            due("crossing: question 3, " + beyond, crossing().question(3, beyond), 4);
        }
    }

    private static void questionWhenALeafIsCheaper() {
        BestTree tree = new BestTree();
        addMany(tree, 3, 0, true);
        tree.add(0b100, false);
        due("one bad: price 1, 20", tree.price(1, 20), 1);
        due("one bad: question 1, 20", tree.question(1, 20), 2);
        due("one bad: question 3, 20", tree.question(3, 20), 2);
    }

    private static void leavesAreTheFewest() {
        int[] wants = {1, 2, 3, 3};
        for (int depth = 0; depth <= 3; depth++) {
            due("steps: leaves " + depth, steps().leaves(depth), wants[depth]);
        }
        // A question that saves no mistake is not worth a leaf.
        BestTree tree = new BestTree();
        addMany(tree, 3, 0, true);
        addMany(tree, 2, 1, true);
        tree.add(1, false);
        for (int depth = 0; depth <= 3; depth++) {
            due("no use: leaves " + depth, tree.leaves(depth), 1);
        }
    }

    private static void leavesOfAFullTree() {
        int[] wants = {1, 1, 1, 8};
        BestTree tree = parity(0b110100);
        for (int depth = 0; depth <= 3; depth++) {
            due("parity of three: leaves " + depth, tree.leaves(depth), wants[depth]);
        }
        for (int far : FAR) {
            due("leaves " + far, tree.leaves(far), 1);
        }
        for (int beyond : BEYOND) {
            due("leaves " + beyond, tree.leaves(beyond), 8);
        }
        due("parity of two: leaves 2", parity(0b100001).leaves(2), 4);
        due("parity of two: leaves 3", parity(0b100001).leaves(3), 4);
    }

    private static void mistakesByEachFeature() {
        BestTree tree = parity(0b000110);
        for (int feature = 0; feature < 6; feature++) {
            boolean useful = feature == 1 || feature == 2;
            due("parity of two: mistakesBy 1, " + feature, tree.mistakesBy(1, feature), 2);
            due("parity of two: mistakesBy 2, " + feature, tree.mistakesBy(2, feature), useful ? 0 : 2);
            due("parity of two: mistakesBy 3, " + feature, tree.mistakesBy(3, feature), 0);
            for (int far : FAR) {
                due("mistakesBy " + far + ", " + feature, tree.mistakesBy(far, feature), 2);
            }
            due("mistakesBy 0, " + feature, tree.mistakesBy(0, feature), 2);
            for (int beyond : BEYOND) {
                due("mistakesBy " + beyond + ", " + feature, tree.mistakesBy(beyond, feature), 0);
            }
        }
        int[] outOfRange = {Integer.MIN_VALUE, -64, -1, 6, 7, 63, 64, Integer.MAX_VALUE};
        for (int feature : outOfRange) {
            for (int depth = -1; depth <= 4; depth++) {
                due("mistakesBy " + depth + ", " + feature, tree.mistakesBy(depth, feature), -1);
            }
        }
        due("parity of four: mistakesBy 4, 0", parity(0b001111).mistakesBy(4, 0), 8);
    }

    private static void doubtfulCountsBothSides() {
        BestTree tree = new BestTree();
        addMany(tree, 3, 0, true);
        due("three alike: doubtful", tree.doubtful(), 0);
        tree.add(0, false);
        due("three against one: doubtful", tree.doubtful(), 4);
        addMany(tree, 2, 63, false);
        due("two more alike: doubtful", tree.doubtful(), 4);
        tree.add(63, true);
        due("two more against one: doubtful", tree.doubtful(), 7);
        tree.add(62, true);
        due("one apart: doubtful", tree.doubtful(), 7);
        tree.drop(3);
        due("first pair broken: doubtful", tree.doubtful(), 3);
    }

    /** The promise's own method, asked three times, changes no answer, neither its own nor another. */
    private static void askingChangesNothing() {
        BestTree tree = steps();
        for (int i = 0; i < 3; i++) {
            ask(tree, promise);
        }
        for (int other = 4; other <= PROMISES; other++) {
            ask(tree, other);
            ask(tree, promise);
        }
        due("in turn: add", tree.add(0, true), 45);
        due("in turn: drop", tree.drop(44), 44);
    }

    private static void ask(BestTree tree, int number) {
        switch (number) {
            case 4: due("in turn: mistakes", tree.mistakes(1), 4); break;
            case 5: due("in turn: price", tree.price(3, 4), 8); break;
            case 6: due("in turn: question", tree.question(1, 0), 5); break;
            case 7: due("in turn: leaves", tree.leaves(3), 3); break;
            case 8: due("in turn: mistakesBy", tree.mistakesBy(1, 2), 16); break;
            default: due("in turn: doubtful", tree.doubtful(), 0); break;
        }
    }

    private static void objectsAreApart() {
        BestTree one = new BestTree();
        BestTree other = new BestTree();
        one.add(3, true);
        one.add(3, false);
        due("apart: add", other.add(3, true), 1);
        due("apart: doubtful", other.doubtful(), 0);
        due("apart: mistakes", other.mistakes(0), 0);
        due("apart: doubtful of the first", one.doubtful(), 2);
    }
}
