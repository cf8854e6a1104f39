/** Promises 14 to 25: models, where tuples come from, and constraints. */
public final class ModelTest {
    private static final int PLAIN = Datalogmill.PLAIN;
    private static final int LEAST = Datalogmill.LEAST;
    private static final int GREATEST = Datalogmill.GREATEST;
    private static final int UNION = Datalogmill.UNION;
    private static final Check CHECK = new Check("ModelTest");

    private ModelTest() {
    }

    public static void main(String[] args) {
        promise14Holds();
        promise14HoldsOfKinds();
        promise14HoldsByTwoNewTuples();
        promise14HoldsByTuplesOfRounds();
        promise14HoldsNotOfKinds();
        promise15HoldsAt();
        promise16HoldsAnew();
        promise17Size();
        promise18At();
        promise19Stratum();
        promise19StratumOfGrowing();
        promise19StratumOfSums();
        promise20Ways();
        promise21Cheapest();
        promise21CheapestAtMost();
        promise22Needed();
        promise22NeededTooManyTuples();
        promise23WhyNot();
        promise23WhyNotOfKinds();
        promise24Broken();
        promise25Repair();
        promise25RepairTooManyTuples();
        CHECK.end();
    }

    private static int code(int first, int second, int third) {
        return 16384 * first + 128 * second + third;
    }

    /** Edges in the relation 0, paths in the relation 1. */
    private static Datalogmill paths(int... edges) {
        Datalogmill mill = new Datalogmill();
        mill.declare(0, 2, PLAIN, 2);
        mill.declare(1, 2, PLAIN, 2);
        for (int edge : edges) {
            mill.fact(0, edge / 10, edge % 10, 0, 5, 0, 3);
        }
        mill.head(1, -1, -2, 0);
        mill.atom(0, true, -1, -2, 0);
        mill.enter();
        mill.head(1, -1, -3, 0);
        mill.atom(1, true, -1, -2, 0);
        mill.atom(0, true, -2, -3, 0);
        mill.enter();
        return mill;
    }

    /** Edges with lengths in the relation 0, and from the start 0 a relation 1 of a kind with the sums of them. */
    private static Datalogmill lengths(int kind, int... edges) {
        Datalogmill mill = new Datalogmill();
        mill.declare(0, 3, PLAIN, 2);
        mill.declare(1, 2, kind, 1);
        mill.declare(2, 1, PLAIN, 1);
        mill.declare(3, 2, UNION, 1);
        for (int edge : edges) {
            mill.fact(0, edge / 100, edge / 10 % 10, edge % 10, 1, 0, 3);
        }
        mill.fact(1, 0, 0, 0, 1, 0, 3);
        mill.head(1, -2, -5, 0);
        mill.atom(1, true, -1, -4, 0);
        mill.atom(0, true, -1, -2, -3);
        mill.add(-5, -4, -3);
        mill.enter();
        return mill;
    }

    /** Seven values, and all pairs of them unless there is 1 in the relation 1, as the fact 0 tells. */
    private static Datalogmill stopped() {
        Datalogmill mill = new Datalogmill();
        mill.declare(0, 1, PLAIN, 1);
        mill.declare(1, 1, PLAIN, 1);
        mill.declare(2, 2, PLAIN, 2);
        mill.fact(1, 1, 0, 0, 1, 0, 3);
        for (int value = 0; value < 7; value++) {
            mill.fact(0, value, 0, 0, 1, 0, 3);
        }
        mill.head(2, -1, -2, 0);
        mill.atom(0, true, -1, 0, 0);
        mill.atom(0, true, -2, 0, 0);
        mill.atom(1, false, 1, 0, 0);
        mill.enter();
        return mill;
    }

    private static void promise14Holds() {
        Datalogmill mill = paths(12, 23, 31);
        CHECK.index("no such relation", () -> mill.holds(2, 1, 1, 0));
        CHECK.index("relation -1", () -> mill.holds(-1, 1, 1, 0));
        CHECK.due("a path", mill.holds(1, 1, 3, 0), true);
        CHECK.due("a round", mill.holds(1, 1, 1, 0), true);
        CHECK.due("no edge", mill.holds(0, 1, 3, 0), false);
        CHECK.due("a column too many", mill.holds(1, 1, 3, 1), false);
        CHECK.due("a value below", mill.holds(1, 1, -1, 0), false);
        CHECK.due("a value that overflows into the next column", mill.holds(1, 0, 128 + 3, 0), false);
        CHECK.due("the least number", mill.holds(1, Integer.MIN_VALUE, Integer.MAX_VALUE, 0), false);
    }

    private static void promise14HoldsOfKinds() {
        Datalogmill least = lengths(LEAST, 14, 212, 109);
        CHECK.due("a long edge", least.holds(1, 1, 4, 0), true);
        least.fact(0, 0, 2, 1, 1, 0, 3);
        CHECK.due("a shorter way", least.holds(1, 1, 3, 0), true);
        CHECK.due("the longer way", least.holds(1, 1, 4, 0), false);
        CHECK.due("one tuple a key", least.size(1), 3);
        Datalogmill greatest = lengths(GREATEST, 14, 21, 212);
        CHECK.due("the greatest", greatest.holds(1, 1, 4, 0), true);
        greatest.fact(0, 1, 0, 9, 1, 0, 3);
        CHECK.due("round and round, to 127", greatest.holds(1, 1, 127, 0), true);
        CHECK.due("the start too", greatest.holds(1, 0, 127, 0), true);
        greatest.fact(3, 5, 1, 0, 1, 0, 3);
        greatest.fact(3, 5, 4, 0, 1, 0, 3);
        greatest.fact(3, 6, 8, 0, 1, 0, 3);
        CHECK.due("bits of both", greatest.holds(3, 5, 5, 0), true);
        CHECK.due("not of one", greatest.holds(3, 5, 4, 0), false);
        CHECK.due("of another key", greatest.holds(3, 6, 8, 0), true);
    }

    private static void promise14HoldsByTwoNewTuples() {
        Datalogmill mill = paths(12, 23, 34, 45, 56, 67, 78, 89);
        mill.remove(1);
        mill.head(1, -1, -3, 0);
        mill.atom(1, true, -1, -2, 0);
        mill.atom(1, true, -2, -3, 0);
        mill.enter();
        CHECK.due("all paths", mill.size(1), 36);
        CHECK.due("the longest", mill.holds(1, 1, 9, 0), true);
        CHECK.due("back", mill.holds(1, 9, 1, 0), false);
        mill.remove(2);
        mill.head(1, -1, -4, 0);
        mill.atom(1, true, -1, -2, 0);
        mill.atom(1, true, -2, -3, 0);
        mill.atom(1, true, -3, -4, 0);
        mill.enter();
        CHECK.due("paths by three", mill.size(1), 8 + 6 + 4 + 2);
        CHECK.due("one of seven edges", mill.holds(1, 2, 9, 0), true);
        CHECK.due("one of eight edges", mill.holds(1, 1, 9, 0), false);
    }

    /** Two counts that go on at the same time, and what needs a tuple of both, or one and the next. */
    private static void promise14HoldsByTuplesOfRounds() {
        Datalogmill mill = new Datalogmill();
        for (int relation = 0; relation < 4; relation++) {
            mill.declare(relation, 1, PLAIN, 1);
        }
        mill.fact(0, 0, 0, 0, 1, 0, 3);
        mill.fact(1, 0, 0, 0, 1, 0, 3);
        mill.head(2, -1, 0, 0);
        mill.atom(0, true, -1, 0, 0);
        mill.atom(1, true, -1, 0, 0);
        mill.enter();
        mill.head(3, -1, 0, 0);
        mill.atom(0, true, -1, 0, 0);
        mill.add(-2, -1, 1);
        mill.atom(0, true, -2, 0, 0);
        mill.enter();
        for (int relation = 0; relation < 2; relation++) {
            mill.head(relation, -2, 0, 0);
            mill.atom(relation, true, -1, 0, 0);
            mill.compare(Datalogmill.LESS, -1, 10);
            mill.add(-2, -1, 1);
            mill.enter();
        }
        CHECK.due("a count", mill.size(0), 11);
        CHECK.due("of both", mill.size(2), 11);
        CHECK.due("one and the next", mill.size(3), 10);
    }

    private static void promise14HoldsNotOfKinds() {
        Datalogmill mill = lengths(LEAST, 14, 25);
        for (int value = 3; value < 6; value++) {
            mill.head(2, value, 0, 0);
            mill.atom(0, true, 0, 1, -1);
            mill.atom(1, false, 1, value, 0);
            mill.enter();
        }
        CHECK.due("another value", mill.holds(2, 3, 0, 0), true);
        CHECK.due("the value", mill.holds(2, 4, 0, 0), false);
        CHECK.due("a greater value", mill.holds(2, 5, 0, 0), true);
    }

    private static void promise15HoldsAt() {
        Datalogmill mill = paths(12);
        mill.fact(0, 2, 3, 0, 1, 1, 2);
        CHECK.index("no such relation, no such hour", () -> mill.holdsAt(2, 1, 3, 0, 4));
        CHECK.argument("hour 4", () -> mill.holdsAt(1, 1, 3, 0, 4));
        CHECK.argument("hour -1", () -> mill.holdsAt(1, 1, 3, 0, -1));
        for (int now = 0; now < 4; now++) {
            for (int hour = 0; hour < 4; hour++) {
                CHECK.due("hour " + hour, mill.holdsAt(1, 1, 3, 0, hour), hour == 1 || hour == 2);
            }
            if (now < 3) {
                mill.pass();
            }
        }
        CHECK.due("a number out of range", mill.holdsAt(1, 1, 300, 0, 1), false);
    }

    private static void promise16HoldsAnew() {
        Datalogmill mill = lengths(GREATEST, 14, 21, 212);
        mill.fact(0, 1, 0, 9, 1, 2, 2);
        CHECK.index("no such relation, no such hour", () -> mill.holdsAnew(9, 1, 3, 0, 4));
        CHECK.argument("hour 4", () -> mill.holdsAnew(1, 1, 3, 0, 4));
        CHECK.argument("hour -1", () -> mill.holdsAnew(1, 1, 3, 0, -1));
        CHECK.due("hour 1", mill.holdsAnew(1, 1, 4, 0, 1), true);
        CHECK.due("hour 2", mill.holdsAnew(1, 1, 127, 0, 2), true);
        CHECK.due("hour 3", mill.holdsAnew(1, 1, 127, 0, 3), false);
        CHECK.due("the model of now is kept", mill.holds(1, 1, 4, 0), true);
        CHECK.due("a number out of range", mill.holdsAnew(1, -1, 4, 0, 1), false);
    }

    private static void promise17Size() {
        Datalogmill mill = paths(12, 23, 31);
        CHECK.index("no such relation", () -> mill.size(2));
        CHECK.index("relation 10", () -> mill.size(10));
        CHECK.due("edges", mill.size(0), 3);
        CHECK.due("paths", mill.size(1), 9);
        mill.fact(0, 1, 2, 0, 1, 0, 3);
        CHECK.due("an edge twice", mill.size(0), 3);
    }

    private static void promise18At() {
        Datalogmill mill = paths(21, 13, 12, 11);
        int[] due = {code(1, 1, 0), code(1, 2, 0), code(1, 3, 0), code(2, 1, 0)};
        for (int place = 0; place < due.length; place++) {
            CHECK.due("place " + place, mill.at(0, place), due[place]);
        }
        CHECK.index("place 4", () -> mill.at(0, 4));
        CHECK.index("place -1", () -> mill.at(0, -1));
        CHECK.index("place 48", () -> mill.at(0, 48));
        CHECK.index("no such relation", () -> mill.at(2, 0));
        Datalogmill least = lengths(LEAST, 14, 23, 9);
        CHECK.due("third numbers", least.at(0, 0), code(0, 0, 9));
        CHECK.due("third numbers", least.at(0, 1), code(0, 1, 4));
        CHECK.due("by the key", least.at(1, 2), code(2, 3, 0));
    }

    private static void promise19Stratum() {
        Datalogmill mill = paths(12);
        for (int relation = 2; relation < 6; relation++) {
            mill.declare(relation, 1, PLAIN, 1);
        }
        CHECK.index("no such relation", () -> mill.stratum(6));
        CHECK.index("relation -1", () -> mill.stratum(-1));
        CHECK.due("no rules", mill.stratum(5), 0);
        CHECK.due("recursion", mill.stratum(1), 0);
        for (int relation = 2; relation < 5; relation++) {
            mill.head(relation, -1, 0, 0);
            mill.atom(0, true, -1, -2, 0);
            if (relation == 2) {
                mill.atom(1, false, -2, -2, 0);
            } else {
                mill.atom(relation - 1, relation == 4, -1, 0, 0);
            }
            mill.enter();
        }
        CHECK.due("not to hold", mill.stratum(2), 1);
        CHECK.due("not to hold again", mill.stratum(3), 2);
        CHECK.due("to hold", mill.stratum(4), 2);
        CHECK.due("in the lowest", mill.holds(2, 1, 0, 0), true);
        CHECK.due("in the middle", mill.holds(3, 1, 0, 0), false);
        mill.remove(2);
        CHECK.due("the rule is removed", mill.stratum(3), 1);
    }

    /** The stratum of a relation of a kind, by the draft's rule, whose body relation is 0 of this kind. */
    private static void above(String what, Datalogmill mill, int relation, int due) {
        int rule = mill.enter();
        CHECK.due(what, mill.stratum(relation), due);
        mill.remove(rule);
    }

    /** Relations 0 and 1 of a kind, 2 of tuples, 3 of another kind. */
    private static Datalogmill ofKind(int kind) {
        Datalogmill mill = new Datalogmill();
        mill.declare(0, 2, kind, 1);
        mill.declare(1, 2, kind, 1);
        mill.declare(2, 2, PLAIN, 2);
        mill.declare(3, 2, kind == LEAST ? GREATEST : LEAST, 1);
        return mill;
    }

    private static void promise19StratumOfGrowing() {
        for (int kind = LEAST; kind <= UNION; kind++) {
            Datalogmill mill = ofKind(kind);
            mill.head(2, -1, -1, 0);
            mill.atom(0, true, -1, -2, 0);
            above("nowhere else", mill, 2, 0);
            mill.head(2, -1, -1, 0);
            mill.atom(0, true, -1, 5, 0);
            above("a value", mill, 2, 1);
            mill.head(1, -1, -2, 0);
            mill.atom(0, true, -1, -2, 0);
            above("into the same kind", mill, 1, 0);
            mill.head(3, -1, -2, 0);
            mill.atom(0, true, -1, -2, 0);
            above("into another kind", mill, 3, 1);
            mill.head(1, -2, -1, 0);
            mill.atom(0, true, -1, -2, 0);
            above("into the key", mill, 1, 1);
            mill.head(1, -2, -2, 0);
            mill.atom(0, true, -1, -2, 0);
            above("into both", mill, 1, 1);
            mill.head(1, -1, -1, 0);
            mill.atom(0, true, -1, -1, 0);
            above("in its own key", mill, 1, 1);
        }
    }

    private static void promise19StratumOfSums() {
        for (int kind = LEAST; kind <= UNION; kind++) {
            Datalogmill mill = ofKind(kind);
            mill.head(1, -1, -3, 0);
            mill.atom(0, true, -1, -2, 0);
            mill.add(-3, -2, 1);
            above("a sum", mill, 1, kind == UNION ? 1 : 0);
            mill.head(1, -1, -3, 0);
            mill.atom(0, true, -1, -2, 0);
            mill.add(-3, 1, -2);
            above("a sum, as third term", mill, 1, kind == UNION ? 1 : 0);
            mill.head(1, -1, -3, 0);
            mill.atom(0, true, -1, -2, 0);
            mill.add(-3, -2, -2);
            above("twice in a sum", mill, 1, 1);
            mill.head(1, -3, -3, 0);
            mill.atom(0, true, -1, -2, 0);
            mill.add(-3, -2, 1);
            above("a sum that is twice in the head", mill, 1, 1);
            mill.head(1, -1, -3, 0);
            mill.atom(0, true, -1, -2, 0);
            mill.add(-3, -2, 1);
            mill.compare(2, -3, 9);
            above("a sum that is compared", mill, 1, 1);
            mill.head(1, -1, 7, 0);
            mill.atom(0, true, -1, -2, 0);
            mill.add(7, -2, 1);
            above("a sum that is a value", mill, 1, 1);
        }
    }

    private static void promise20Ways() {
        Datalogmill mill = paths(12, 23, 13, 12);
        CHECK.index("no such relation", () -> mill.ways(2, 1, 2, 0));
        CHECK.due("two facts", mill.ways(0, 1, 2, 0), 2);
        CHECK.due("an edge, and a path by 2", mill.ways(1, 1, 3, 0), 2);
        CHECK.due("not in the model", mill.ways(1, 3, 1, 0), 0);
        CHECK.due("not a tuple", mill.ways(1, 1, 128, 0), 0);
        mill.fact(1, 1, 3, 0, 1, 1, 3);
        CHECK.due("a fact of another hour", mill.ways(1, 1, 3, 0), 2);
        mill.pass();
        CHECK.due("a fact of this hour", mill.ways(1, 1, 3, 0), 3);
        mill.drop(4);
        CHECK.due("a dropped fact", mill.ways(1, 1, 3, 0), 2);
        mill.remove(1);
        CHECK.due("a removed rule", mill.ways(1, 1, 3, 0), 1);
        Datalogmill least = lengths(LEAST, 14, 21, 212, 109);
        least.fact(0, 0, 2, 1, 1, 0, 3);
        CHECK.due("all ways to a key", least.ways(1, 1, 3, 0), 2);
        CHECK.due("a value that is not the least", least.ways(1, 1, 4, 0), 0);
        CHECK.due("a fact and a way back", least.ways(1, 0, 0, 0), 2);
        least.fact(1, 1, 100, 0, 1, 0, 3);
        CHECK.due("a fact of another value", least.ways(1, 1, 3, 0), 3);
    }

    private static void promise21Cheapest() {
        Datalogmill mill = paths(12, 23, 31);
        CHECK.index("no such relation", () -> mill.cheapest(2, 1, 2, 0));
        CHECK.due("not in the model", mill.cheapest(1, 1, 4, 0), Datalogmill.NONE);
        CHECK.due("not a tuple", mill.cheapest(1, 1, -4, 0), Datalogmill.NONE);
        CHECK.due("a fact", mill.cheapest(0, 1, 2, 0), 5);
        CHECK.due("an edge", mill.cheapest(1, 1, 2, 0), 6);
        CHECK.due("two edges", mill.cheapest(1, 1, 3, 0), 12);
        CHECK.due("round", mill.cheapest(1, 1, 1, 0), 18);
        mill.fact(0, 1, 2, 0, 2, 1, 1);
        CHECK.due("a cheaper fact of another hour", mill.cheapest(0, 1, 2, 0), 5);
        mill.pass();
        CHECK.due("a cheaper fact", mill.cheapest(1, 1, 3, 0), 9);
        mill.fact(1, 1, 1, 0, 1, 0, 3);
        CHECK.due("it helps others", mill.cheapest(1, 1, 2, 0), 3);
        CHECK.due("by the fact", mill.cheapest(1, 1, 3, 0), 9);
        Datalogmill least = lengths(LEAST, 14, 21, 212);
        least.fact(1, 1, 100, 0, 1, 0, 3);
        CHECK.due("of all ways to the key", least.cheapest(1, 1, 3, 0), 1);
    }

    private static void promise21CheapestAtMost() {
        Datalogmill mill = new Datalogmill();
        mill.declare(0, 1, PLAIN, 1);
        mill.fact(0, 0, 0, 0, 100, 0, 3);
        mill.head(0, -2, 0, 0);
        mill.atom(0, true, -1, 0, 0);
        mill.atom(0, true, -1, 0, 0);
        mill.atom(0, true, -1, 0, 0);
        mill.compare(2, -1, 40);
        mill.add(-2, -1, 1);
        mill.enter();
        CHECK.due("thrice the same", mill.cheapest(0, 1, 0, 0), 301);
        CHECK.due("below the most", mill.cheapest(0, 8, 0, 0), 659380);
        CHECK.due("more", mill.cheapest(0, 9, 0, 0), 1000000);
        CHECK.due("much more", mill.cheapest(0, 40, 0, 0), 1000000);
        mill.head(0, 9, 0, 0);
        mill.enter();
        CHECK.due("a rule without literals", mill.cheapest(0, 9, 0, 0), 1);
        mill.remove(1);
        CHECK.due("a removed rule", mill.cheapest(0, 9, 0, 0), 1000000);
    }

    private static void promise22Needed() {
        Datalogmill mill = paths(12, 23, 13, 34);
        CHECK.index("no such relation", () -> mill.needed(2, 1, 2, 0));
        CHECK.due("not in the model", mill.needed(1, 4, 1, 0), 0);
        CHECK.due("either", mill.needed(1, 1, 3, 0), 0);
        CHECK.due("the last edge", mill.needed(1, 1, 4, 0), 1 << 3);
        CHECK.due("two edges", mill.needed(1, 2, 4, 0), 1 << 1 | 1 << 3);
        mill.fact(0, 3, 4, 0, 1, 1, 1);
        CHECK.due("the same tuple in another hour", mill.needed(1, 1, 4, 0), 1 << 3);
        mill.pass();
        CHECK.due("the same tuple now", mill.needed(1, 1, 4, 0), 0);
        Datalogmill least = lengths(LEAST, 14, 21, 212);
        CHECK.due("the value, but for a fact that does not matter", least.needed(1, 1, 3, 0), 1 << 1 | 1 << 2 | 1 << 3);
        least.fact(0, 0, 1, 2, 1, 0, 3);
        CHECK.due("a fact that gives a lesser value", least.needed(1, 1, 2, 0), 1 << 3 | 1 << 4);
    }

    private static void promise22NeededTooManyTuples() {
        Datalogmill mill = stopped();
        CHECK.due("without it there are 56 tuples", mill.needed(1, 1, 0, 0), 0);
        CHECK.due("others", mill.needed(0, 1, 0, 0), 1 << 2);
        mill.drop(7);
        CHECK.due("without it there are 42 tuples", mill.needed(1, 1, 0, 0), 1);
    }

    private static void promise23WhyNot() {
        Datalogmill mill = paths(12, 23);
        CHECK.index("no such relation", () -> mill.whyNot(2, 200, 0, 0));
        CHECK.argument("a value out of range", () -> mill.whyNot(1, 1, 128, 0));
        CHECK.argument("a value below", () -> mill.whyNot(1, -1, 1, 0));
        CHECK.argument("a column too many", () -> mill.whyNot(1, 1, 2, 1));
        CHECK.state("in the model", () -> mill.whyNot(1, 1, 3, 0));
        CHECK.due("no rules", mill.whyNot(0, 1, 3, 0), Datalogmill.NONE);
        CHECK.due("the first of two", mill.whyNot(1, 3, 1, 0), 0);
        CHECK.due("a path, but no edge", mill.whyNot(1, 1, 1, 0), 11);
        mill.head(1, -1, -1, 0);
        mill.atom(0, true, -1, -2, 0);
        mill.compare(0, -1, 2);
        mill.compare(0, -1, 3);
        mill.enter();
        CHECK.due("a head that it can be", mill.whyNot(1, 2, 2, 0), 22);
        CHECK.due("a head that it cannot be", mill.whyNot(1, 2, 1, 0), 11);
        mill.remove(2);
        CHECK.due("a removed rule", mill.whyNot(1, 2, 2, 0), 11);
        mill.head(0, 9, -1, 0);
        mill.atom(1, true, -1, -2, 0);
        mill.compare(Datalogmill.OTHER, -1, -1);
        mill.enter();
        CHECK.due("a value in the head", mill.whyNot(0, 9, 1, 0), 31);
        CHECK.due("another value", mill.whyNot(0, 8, 1, 0), Datalogmill.NONE);
    }

    private static void promise23WhyNotOfKinds() {
        Datalogmill mill = lengths(LEAST, 14);
        CHECK.due("the last column is not asked", mill.whyNot(1, 1, 9, 0), 3);
        CHECK.due("of another key", mill.whyNot(1, 2, 9, 0), 1);
        mill.head(1, 6, 6, 0);
        mill.atom(2, true, 1, 0, 0);
        mill.enter();
        CHECK.due("a value as last column", mill.whyNot(1, 6, 5, 0), 1);
        mill.head(1, -1, -1, 0);
        mill.atom(0, true, -2, -1, -3);
        mill.compare(1, -1, 1);
        mill.enter();
        CHECK.due("the last column by the key", mill.whyNot(1, 1, 0, 0), 3);
        Datalogmill two = new Datalogmill();
        two.declare(0, 2, LEAST, 1);
        two.declare(1, 1, PLAIN, 1);
        two.fact(1, 4, 0, 0, 1, 0, 3);
        two.head(0, 1, -1, 0);
        two.atom(1, true, -1, 0, 0);
        two.compare(0, -1, 5);
        two.enter();
        CHECK.due("the last column is not bound", two.whyNot(0, 1, 9, 0), 1);
    }

    private static void promise24Broken() {
        Datalogmill mill = new Datalogmill();
        mill.declare(0, 2, PLAIN, 1);
        mill.declare(1, 3, PLAIN, 2);
        mill.declare(2, 2, PLAIN, 2);
        CHECK.due("nothing", mill.broken(), 0);
        mill.fact(0, 1, 2, 0, 1, 0, 3);
        mill.fact(0, 2, 2, 0, 1, 0, 3);
        CHECK.due("other keys", mill.broken(), 0);
        mill.fact(0, 1, 3, 0, 1, 1, 3);
        CHECK.due("in another hour", mill.broken(), 0);
        mill.pass();
        CHECK.due("a key", mill.broken(), 1);
        mill.fact(0, 1, 4, 0, 1, 0, 3);
        CHECK.due("a key by three tuples", mill.broken(), 1);
        mill.fact(1, 1, 2, 3, 1, 0, 3);
        mill.fact(1, 1, 3, 3, 1, 0, 3);
        CHECK.due("a key of two columns", mill.broken(), 1);
        mill.fact(1, 1, 3, 4, 1, 0, 3);
        CHECK.due("the keys of two relations", mill.broken(), 2);
        mill.fact(2, 1, 3, 0, 1, 0, 3);
        mill.fact(2, 1, 4, 0, 1, 0, 3);
        CHECK.due("a key of all columns", mill.broken(), 2);
        mill.atom(2, true, 1, -1, 0);
        mill.compare(2, 3, -1);
        mill.deny();
        CHECK.due("a denial", mill.broken(), 3);
        mill.atom(2, false, 5, 5, 0);
        mill.deny();
        mill.compare(1, 5, 5);
        mill.deny();
        CHECK.due("two denials of three", mill.broken(), 4);
    }

    private static void promise25Repair() {
        Datalogmill mill = paths(12, 23, 34, 13);
        CHECK.due("nothing is broken", mill.repair(), 0);
        mill.atom(1, true, 1, 4, 0);
        mill.deny();
        CHECK.due("one fact", mill.repair(), 1 << 2);
        mill.atom(1, true, 1, 3, 0);
        mill.deny();
        CHECK.due("two facts", mill.repair(), 1 | 1 << 3);
        mill.fact(0, 1, 3, 0, 1, 1, 3);
        CHECK.due("a fact of another hour", mill.repair(), 1 | 1 << 3);
        mill.pass();
        CHECK.due("three facts would be needed", mill.repair(), Datalogmill.NONE);
        mill.drop(3);
        CHECK.due("a dropped fact", mill.repair(), 1 | 1 << 4);
        mill.atom(0, false, 9, 9, 0);
        mill.deny();
        CHECK.due("what no fact less mends", mill.repair(), Datalogmill.NONE);
        Datalogmill key = new Datalogmill();
        key.declare(0, 2, PLAIN, 1);
        for (int fact = 0; fact < 3; fact++) {
            key.fact(0, 1, 9 - fact, 0, 1, 0, 3);
            CHECK.due("the least number", key.repair(), fact == 0 ? 0 : fact == 1 ? 1 : 3);
        }
        key.fact(0, 2, 1, 0, 1, 0, 3);
        key.fact(0, 2, 2, 0, 1, 0, 3);
        key.drop(0);
        CHECK.due("one of each key", key.repair(), 1 << 1 | 1 << 3);
    }

    private static void promise25RepairTooManyTuples() {
        Datalogmill mill = stopped();
        mill.atom(1, true, -1, 0, 0);
        mill.deny();
        CHECK.due("not alone, as there would be 56 tuples", mill.repair(), 1 | 1 << 1);
    }
}
