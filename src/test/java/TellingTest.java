/** Promises 1 to 13: what is told of relations, facts, hours and rules. */
public final class TellingTest {
    private static final int PLAIN = Datalogmill.PLAIN;
    private static final int LEAST = Datalogmill.LEAST;
    private static final int GREATEST = Datalogmill.GREATEST;
    private static final int UNION = Datalogmill.UNION;
    private static final Check CHECK = new Check("TellingTest");

    private TellingTest() {
    }

    public static void main(String[] args) {
        promise1NewObject();
        promise2Declare();
        promise3Fact();
        promise3FactAndHours();
        promise4Drop();
        promise5Pass();
        promise6Head();
        promise7Atom();
        promise8Compare();
        promise9Add();
        promise10Clear();
        promise11Enter();
        promise11EnterIsSafe();
        promise11EnterStrata();
        promise11EnterTooManyTuples();
        promise12Deny();
        promise13Remove();
        CHECK.end();
    }

    /** Relations 0 to 2 with as many columns as their number and 1, of tuples. */
    private static Datalogmill plain() {
        Datalogmill mill = new Datalogmill();
        mill.declare(0, 1, PLAIN, 1);
        mill.declare(1, 2, PLAIN, 2);
        mill.declare(2, 3, PLAIN, 3);
        return mill;
    }

    private static void promise1NewObject() {
        CHECK.due("FREE", Datalogmill.FREE, -9);
        CHECK.due("NONE", Datalogmill.NONE, -1);
        CHECK.due("kinds", PLAIN + 10 * LEAST + 100 * GREATEST + 1000 * UNION, 3210);
        CHECK.due("comparisons", Datalogmill.SAME + 10 * Datalogmill.OTHER + 100 * Datalogmill.LESS
                + 1000 * Datalogmill.AT_MOST, 3210);
        Datalogmill mill = new Datalogmill();
        CHECK.index("size(0) of a new object", () -> mill.size(0));
        CHECK.argument("enter() of an empty draft", mill::enter);
        CHECK.argument("deny() of an empty draft", mill::deny);
        CHECK.due("clear() of an empty draft", mill.clear(), 0);
        CHECK.due("broken()", mill.broken(), 0);
        CHECK.due("repair()", mill.repair(), 0);
        Datalogmill other = plain();
        other.fact(0, 1, 0, 0, 1, 0, 3);
        CHECK.index("another object's relation", () -> mill.size(0));
    }

    private static void promise2Declare() {
        Datalogmill mill = new Datalogmill();
        CHECK.index("declare(-1, ..)", () -> mill.declare(-1, 1, PLAIN, 1));
        CHECK.index("declare(10, ..)", () -> mill.declare(10, 1, PLAIN, 1));
        CHECK.index("kind -1", () -> mill.declare(0, 1, -1, 1));
        CHECK.index("kind 4 and no columns", () -> mill.declare(0, 0, 4, 1));
        CHECK.argument("columns 0", () -> mill.declare(0, 0, PLAIN, 1));
        CHECK.argument("columns 4", () -> mill.declare(0, 4, PLAIN, 1));
        CHECK.argument("key 0", () -> mill.declare(0, 2, PLAIN, 0));
        CHECK.argument("key 3 of 2", () -> mill.declare(0, 2, PLAIN, 3));
        CHECK.argument("key 2 of 2, LEAST", () -> mill.declare(0, 2, LEAST, 2));
        CHECK.argument("key 0 of 2, UNION", () -> mill.declare(0, 2, UNION, 0));
        CHECK.index("still not declared", () -> mill.size(0));
        mill.declare(0, 1, LEAST, 0);
        mill.declare(9, 3, PLAIN, 1);
        mill.declare(8, 3, GREATEST, 2);
        CHECK.due("size(0)", mill.size(0), 0);
        CHECK.due("size(9)", mill.size(9), 0);
        CHECK.state("declared", () -> mill.declare(0, 1, LEAST, 0));
        CHECK.argument("declared, and key out of range", () -> mill.declare(0, 1, LEAST, 1));
    }

    private static void promise3Fact() {
        Datalogmill mill = plain();
        CHECK.index("no such relation", () -> mill.fact(3, 200, 0, 0, 1, 0, 0));
        CHECK.index("relation -1", () -> mill.fact(-1, 0, 0, 0, 1, 0, 0));
        CHECK.index("relation 10", () -> mill.fact(10, 0, 0, 0, 1, 0, 0));
        CHECK.argument("value 128", () -> mill.fact(1, 1, 128, 0, 1, 0, 0));
        CHECK.argument("value -1", () -> mill.fact(1, -1, 1, 0, 1, 0, 0));
        CHECK.argument("a third column of two", () -> mill.fact(1, 1, 1, 1, 1, 0, 0));
        CHECK.argument("cost 0", () -> mill.fact(1, 1, 1, 0, 0, 0, 0));
        CHECK.argument("cost 101", () -> mill.fact(1, 1, 1, 0, 101, 0, 0));
        CHECK.argument("from -1", () -> mill.fact(1, 1, 1, 0, 1, -1, 0));
        CHECK.argument("to 4", () -> mill.fact(1, 1, 1, 0, 1, 0, 4));
        CHECK.argument("to below from", () -> mill.fact(1, 1, 1, 0, 1, 2, 1));
        CHECK.due("first", mill.fact(2, 127, 0, 127, 100, 0, 3), 0);
        CHECK.due("second", mill.fact(0, 0, 0, 0, 1, 3, 3), 1);
        CHECK.due("holds", mill.holds(2, 127, 0, 127), true);
        CHECK.due("not yet", mill.holds(0, 0, 0, 0), false);
        for (int fact = 2; fact < 24; fact++) {
            CHECK.due("fact " + fact, mill.fact(0, 5, 0, 0, 1, 0, 3), fact);
        }
        CHECK.state("a 25th fact", () -> mill.fact(0, 5, 0, 0, 1, 0, 3));
        CHECK.due("drop(2)", mill.drop(2), 23);
        CHECK.state("a 25th fact, one being dropped", () -> mill.fact(0, 5, 0, 0, 1, 0, 3));
        CHECK.argument("a 25th fact of no cost", () -> mill.fact(0, 5, 0, 0, 0, 0, 3));
    }

    private static void rule(Datalogmill mill, int relation, int first, int second, int from) {
        mill.head(relation, first, second, 0);
        mill.atom(from, true, -1, 0, 0);
        mill.enter();
    }

    private static void promise3FactAndHours() {
        Datalogmill mill = plain();
        mill.declare(3, 1, PLAIN, 1);
        rule(mill, 1, -1, 0, 0);
        rule(mill, 3, -1, 0, 0);
        for (int value = 0; value < 16; value++) {
            mill.fact(0, value, 0, 0, 1, 0, 0);
        }
        CHECK.state("49 tuples and more in hour 0", () -> mill.fact(0, 16, 0, 0, 1, 0, 3));
        CHECK.due("the refused fact", mill.holdsAt(0, 16, 0, 0, 2), false);
        CHECK.due("in another hour", mill.fact(0, 16, 0, 0, 1, 1, 3), 16);
        CHECK.due("48 tuples", mill.size(0) + mill.size(1) + mill.size(3), 48);
        CHECK.state("49 tuples in hour 0", () -> mill.fact(2, 1, 1, 1, 1, 0, 0));
        CHECK.due("the refused fact", mill.size(2), 0);
        CHECK.due("a tuple that is there", mill.fact(0, 15, 0, 0, 1, 0, 0), 17);
        mill.pass();
        CHECK.state("too many in an hour that is over", () -> mill.fact(0, 17, 0, 0, 1, 0, 0));
        CHECK.state("too many in an hour that is over and later", () -> mill.fact(0, 17, 0, 0, 1, 0, 1));
        CHECK.due("in this hour", mill.fact(0, 17, 0, 0, 1, 1, 1), 18);
    }

    private static void promise4Drop() {
        Datalogmill mill = plain();
        CHECK.index("drop(0) without facts", () -> mill.drop(0));
        mill.fact(0, 7, 0, 0, 1, 0, 3);
        mill.fact(0, 7, 0, 0, 1, 1, 2);
        mill.fact(0, 8, 0, 0, 1, 0, 3);
        CHECK.index("drop(-1)", () -> mill.drop(-1));
        CHECK.index("drop(3)", () -> mill.drop(3));
        CHECK.due("drop(0)", mill.drop(0), 2);
        CHECK.due("gone in hour 0", mill.holdsAt(0, 7, 0, 0, 0), false);
        CHECK.due("there by another fact in hour 2", mill.holdsAt(0, 7, 0, 0, 2), true);
        CHECK.due("gone in hour 3", mill.holdsAt(0, 7, 0, 0, 3), false);
        CHECK.state("drop(0) again", () -> mill.drop(0));
        CHECK.due("drop(2)", mill.drop(2), 1);
        CHECK.due("the next number", mill.fact(0, 9, 0, 0, 1, 0, 3), 3);
        Datalogmill stopped = stopped();
        CHECK.due("a stop", stopped.fact(0, 100, 0, 0, 1, 0, 3), 7);
        pairs(stopped);
        CHECK.due("no pairs", stopped.size(1), 0);
        CHECK.state("49 pairs without the stop", () -> stopped.drop(7));
        CHECK.due("the stop is there", stopped.holds(0, 100, 0, 0), true);
        CHECK.due("drop(0)", stopped.drop(0), 7);
        CHECK.due("36 pairs without the stop", stopped.drop(7), 6);
        CHECK.due("pairs", stopped.size(1), 36);
    }

    /** Seven values in the relation 3. */
    private static Datalogmill stopped() {
        Datalogmill mill = plain();
        mill.declare(3, 1, PLAIN, 1);
        for (int value = 0; value < 7; value++) {
            mill.fact(3, value, 0, 0, 1, 0, 3);
        }
        return mill;
    }

    /** All pairs of values, unless there is 100 in the relation 0. */
    private static void pairs(Datalogmill mill) {
        mill.head(1, -1, -2, 0);
        mill.atom(3, true, -1, 0, 0);
        mill.atom(3, true, -2, 0, 0);
        mill.atom(0, false, 100, 0, 0);
        mill.enter();
    }

    private static void promise5Pass() {
        Datalogmill mill = plain();
        mill.fact(0, 4, 0, 0, 1, 1, 2);
        CHECK.due("hour 0", mill.holds(0, 4, 0, 0), false);
        CHECK.due("pass()", mill.pass(), 1);
        CHECK.due("hour 1", mill.holds(0, 4, 0, 0), true);
        CHECK.due("pass()", mill.pass(), 2);
        CHECK.due("hour 2", mill.size(0), 1);
        CHECK.due("pass()", mill.pass(), 3);
        CHECK.due("hour 3", mill.size(0), 0);
        CHECK.state("pass() in hour 3", mill::pass);
        CHECK.due("hour 3 still", mill.size(0), 0);
    }

    private static void promise6Head() {
        Datalogmill mill = plain();
        CHECK.index("no such relation", () -> mill.head(3, 200, 0, 0));
        CHECK.argument("term 128", () -> mill.head(0, 128, 0, 0));
        CHECK.argument("term -9", () -> mill.head(0, -9, 0, 0));
        CHECK.argument("a term too many", () -> mill.head(0, 1, -1, 0));
        CHECK.argument("a third term too many", () -> mill.head(1, 1, 1, 1));
        CHECK.argument("no head yet", mill::enter);
        mill.head(0, 127, 0, 0);
        mill.head(1, 3, 4, 0);
        CHECK.argument("not in place of the one before", () -> mill.head(2, 1, 2, -9));
        CHECK.due("enter()", mill.enter(), 0);
        CHECK.due("the later head", mill.holds(1, 3, 4, 0), true);
        CHECK.due("the earlier head", mill.size(0), 0);
    }

    private static void promise7Atom() {
        Datalogmill mill = plain();
        CHECK.index("no such relation", () -> mill.atom(5, true, 200, 0, 0));
        CHECK.argument("term 128", () -> mill.atom(0, true, 128, 0, 0));
        CHECK.argument("term -9", () -> mill.atom(1, true, -1, -9, 0));
        CHECK.argument("a term too many", () -> mill.atom(0, false, -1, -1, 0));
        CHECK.due("first", mill.atom(2, true, -1, -8, 127), 1);
        CHECK.due("second", mill.atom(0, true, -1, 0, 0), 2);
        CHECK.due("third", mill.atom(0, true, -2, 0, 0), 3);
        CHECK.state("a fourth one that holds", () -> mill.atom(0, true, -2, 0, 0));
        CHECK.argument("a fourth one that holds, out of range", () -> mill.atom(0, true, -2, 1, 0));
        CHECK.due("one that is not to hold", mill.atom(0, false, -2, 0, 0), 4);
        CHECK.due("another one", mill.atom(0, false, -2, 0, 0), 5);
        CHECK.state("a sixth literal", () -> mill.atom(0, false, -2, 0, 0));
        CHECK.due("literals", mill.clear(), 5);
        mill.fact(1, 1, 2, 0, 1, 0, 3);
        mill.fact(1, 3, 3, 0, 1, 0, 3);
        mill.fact(0, 1, 0, 0, 1, 0, 3);
        mill.head(2, -1, -2, 0);
        mill.atom(1, true, -1, -2, 0);
        mill.atom(0, false, -1, 0, 0);
        mill.enter();
        CHECK.due("holds, and does not", mill.at(2, 0), 3 * 16384 + 3 * 128);
        CHECK.due("one alone", mill.size(2), 1);
        mill.head(2, -1, 9, 0);
        mill.atom(1, true, -1, -1, 0);
        mill.enter();
        CHECK.due("a variable twice", mill.holds(2, 3, 9, 0), true);
        CHECK.due("not of other values", mill.holds(2, 1, 9, 0), false);
    }

    private static void promise8Compare() {
        Datalogmill mill = plain();
        CHECK.index("comparison -1", () -> mill.compare(-1, 1, 1));
        CHECK.index("comparison 4, terms out of range", () -> mill.compare(4, 128, 1));
        CHECK.argument("term 128", () -> mill.compare(0, 1, 128));
        CHECK.argument("term -9", () -> mill.compare(0, -9, 1));
        for (int value = 1; value < 4; value++) {
            mill.fact(0, value, 0, 0, 1, 0, 3);
        }
        for (int how = 0; how < 4; how++) {
            mill.head(1, how, -1, 0);
            mill.atom(0, true, -1, 0, 0);
            CHECK.due("literals", mill.compare(how, -1, 2), 2);
            mill.enter();
        }
        int[] holding = {1 << 2, 1 << 1 | 1 << 3, 1 << 1, 1 << 1 | 1 << 2};
        for (int how = 0; how < 4; how++) {
            for (int value = 1; value < 4; value++) {
                CHECK.due(how + " of " + value, mill.holds(1, how, value, 0), (holding[how] >> value & 1) != 0);
            }
        }
        for (int i = 1; i <= 5; i++) {
            CHECK.due("literals", mill.compare(0, 1, 1), i);
        }
        CHECK.state("a sixth literal", () -> mill.compare(0, 1, 1));
        CHECK.index("a sixth literal, no such comparison", () -> mill.compare(4, 1, 1));
    }

    private static void promise9Add() {
        Datalogmill mill = plain();
        CHECK.argument("first 128", () -> mill.add(128, 1, 1));
        CHECK.argument("second -9", () -> mill.add(1, -9, 1));
        CHECK.argument("third 200", () -> mill.add(1, 1, 200));
        mill.fact(1, 100, 27, 0, 1, 0, 3);
        mill.fact(1, 100, 28, 0, 1, 0, 3);
        mill.fact(1, 1, 2, 0, 1, 0, 3);
        mill.head(2, -1, -2, -3);
        mill.atom(1, true, -1, -2, 0);
        CHECK.due("literals", mill.add(-3, -1, -2), 2);
        mill.enter();
        CHECK.due("1 + 2", mill.holds(2, 1, 2, 3), true);
        CHECK.due("100 + 27", mill.holds(2, 100, 27, 127), true);
        CHECK.due("100 + 28", mill.holds(2, 100, 28, 127), true);
        mill.head(0, -1, 0, 0);
        mill.atom(1, true, -1, -2, 0);
        mill.add(-2, -1, 1);
        mill.enter();
        CHECK.due("a sum that is bound", mill.at(0, 0), 16384);
        CHECK.due("one alone", mill.size(0), 1);
        for (int i = 1; i <= 5; i++) {
            CHECK.due("literals", mill.add(1, 1, 1), i);
        }
        CHECK.state("a sixth literal", () -> mill.add(1, 1, 1));
        CHECK.argument("a sixth literal, out of range", () -> mill.add(1, 1, 128));
    }

    private static void promise10Clear() {
        Datalogmill mill = plain();
        mill.head(0, 1, 0, 0);
        mill.compare(0, 1, 1);
        mill.add(2, 1, 1);
        CHECK.due("clear()", mill.clear(), 2);
        CHECK.due("clear() again", mill.clear(), 0);
        CHECK.argument("the head is gone", mill::enter);
        CHECK.argument("the literals are gone", mill::deny);
    }

    private static void promise11Enter() {
        Datalogmill mill = plain();
        mill.atom(0, true, -1, 0, 0);
        CHECK.argument("no head", mill::enter);
        mill.head(1, -1, -1, 0);
        CHECK.due("enter()", mill.enter(), 0);
        CHECK.argument("the draft is without a head", mill::enter);
        CHECK.due("the draft is without literals", mill.clear(), 0);
        for (int rule = 1; rule < 12; rule++) {
            mill.head(0, rule, 0, 0);
            CHECK.due("rule", mill.enter(), rule);
            CHECK.argument("the head is gone", mill::enter);
        }
        CHECK.due("facts by rules", mill.size(1), 11);
        mill.head(0, 12, 0, 0);
        CHECK.state("a 13th rule", mill::enter);
        mill.remove(3);
        CHECK.state("a 13th rule, one being removed", mill::enter);
        mill.head(0, -1, 0, 0);
        CHECK.argument("a 13th rule that is not safe", mill::enter);
    }

    private static void safe(String what, Datalogmill mill, boolean is) {
        mill.head(0, 1, 0, 0);
        if (is) {
            CHECK.due(what, mill.enter() >= 0, true);
        } else {
            CHECK.argument(what, mill::enter);
            mill.clear();
        }
    }

    private static void promise11EnterIsSafe() {
        Datalogmill mill = plain();
        mill.atom(1, false, -1, 3, 0);
        safe("an atom not to hold, ahead", mill, false);
        mill.atom(1, false, 3, 3, 0);
        safe("an atom of values", mill, true);
        mill.compare(0, -1, 1);
        mill.atom(0, true, -1, 0, 0);
        safe("a comparison ahead of what binds", mill, false);
        mill.atom(1, true, -1, -2, 0);
        mill.compare(2, -1, -2);
        safe("a comparison behind what binds", mill, true);
        mill.add(-1, -1, 1);
        safe("a sum of itself", mill, false);
        mill.add(-1, 1, -2);
        safe("a third term", mill, false);
        mill.add(-1, 1, 2);
        mill.add(-2, -1, -1);
        mill.compare(0, -2, 6);
        safe("a sum binds", mill, true);
        mill.atom(0, true, -1, 0, 0);
        mill.head(1, -1, -2, 0);
        CHECK.argument("a head that is not bound", mill::enter);
        CHECK.due("the draft is as it was", mill.clear(), 1);
        mill.atom(0, true, -8, 0, 0);
        mill.head(2, -8, -8, 0);
        CHECK.due("the last variable", mill.enter() >= 0, true);
    }

    private static void promise11EnterStrata() {
        Datalogmill mill = plain();
        mill.declare(3, 1, LEAST, 0);
        mill.head(0, 1, 0, 0);
        mill.atom(0, false, 1, 0, 0);
        CHECK.state("not to hold, of itself", mill::enter);
        CHECK.due("the draft is as it was", mill.clear(), 1);
        mill.head(0, -1, 0, 0);
        mill.atom(3, true, -1, 0, 0);
        mill.enter();
        mill.head(3, -1, 0, 0);
        mill.atom(0, true, -1, 0, 0);
        CHECK.state("by a relation that does not grow", mill::enter);
        mill.clear();
        CHECK.due("strata are as they were", mill.stratum(0), 1);
        CHECK.due("strata are as they were", mill.stratum(3), 0);
        mill.head(3, 5, 0, 0);
        CHECK.due("another rule", mill.enter(), 1);
        CHECK.due("by it", mill.holds(0, 5, 0, 0), true);
    }

    private static void promise11EnterTooManyTuples() {
        Datalogmill mill = stopped();
        mill.fact(0, 100, 0, 0, 1, 0, 2);
        mill.head(1, -1, -2, 0);
        mill.atom(3, true, -1, 0, 0);
        mill.atom(3, true, -2, 0, 0);
        mill.atom(0, false, 100, 0, 0);
        CHECK.state("49 pairs and more in hour 3", mill::enter);
        mill.compare(2, -1, -2);
        CHECK.due("the draft is as it was, and 21 pairs", mill.enter(), 0);
        CHECK.due("in hour 3", mill.holdsAt(1, 0, 6, 0, 3), true);
        mill.pass();
        mill.pass();
        mill.pass();
        CHECK.due("21 pairs", mill.size(1), 21);
    }

    private static void promise12Deny() {
        Datalogmill mill = plain();
        mill.head(0, -1, 0, 0);
        CHECK.argument("no literals", mill::deny);
        mill.atom(0, false, -1, 0, 0);
        CHECK.argument("not safe", mill::deny);
        CHECK.due("the draft is as it was", mill.clear(), 1);
        mill.head(1, -1, -2, 0);
        mill.atom(0, true, -1, 0, 0);
        CHECK.due("the head is not asked", mill.deny(), 0);
        mill.head(0, 1, 0, 0);
        mill.clear();
        mill.head(0, 1, 0, 0);
        mill.compare(0, 1, 2);
        CHECK.due("a head that is not asked", mill.deny(), 1);
        CHECK.argument("the draft is without a head", mill::enter);
        CHECK.due("the draft is without literals", mill.clear(), 0);
        for (int denial = 2; denial < 6; denial++) {
            mill.compare(0, 1, 2);
            CHECK.due("deny()", mill.deny(), denial);
        }
        mill.compare(0, 1, 2);
        CHECK.state("a seventh denial", mill::deny);
        CHECK.due("the draft is as it was", mill.clear(), 1);
        mill.compare(0, 1, -2);
        CHECK.argument("a seventh denial that is not safe", mill::deny);
        CHECK.due("a denial is no rule", mill.stratum(0), 0);
    }

    private static void promise13Remove() {
        Datalogmill mill = stopped();
        CHECK.index("remove(0) without rules", () -> mill.remove(0));
        mill.head(0, 100, 0, 0);
        mill.enter();
        pairs(mill);
        mill.head(2, -1, 0, 0);
        mill.atom(3, true, -1, 0, 0);
        mill.compare(2, -1, 2);
        mill.enter();
        CHECK.index("remove(-1)", () -> mill.remove(-1));
        CHECK.index("remove(3)", () -> mill.remove(3));
        CHECK.state("49 pairs and more", () -> mill.remove(0));
        CHECK.due("not removed", mill.holds(0, 100, 0, 0), true);
        CHECK.due("stratum", mill.stratum(1), 1);
        CHECK.due("remove(1)", mill.remove(1), 2);
        CHECK.due("stratum without the rule", mill.stratum(1), 0);
        CHECK.state("remove(1) again", () -> mill.remove(1));
        CHECK.due("remove(0)", mill.remove(0), 1);
        CHECK.due("without it", mill.size(0), 0);
        CHECK.due("the other one", mill.size(2), 2);
        mill.head(0, 1, 0, 0);
        CHECK.due("the next number", mill.enter(), 3);
        Datalogmill strata = stopped();
        strata.head(0, -1, 0, 0);
        strata.atom(3, true, -1, 0, 0);
        strata.atom(2, false, 1, 1, 1);
        strata.compare(0, -1, 1);
        strata.enter();
        strata.head(1, -1, -2, 0);
        strata.atom(3, true, -1, 0, 0);
        strata.atom(3, true, -2, 0, 0);
        strata.atom(0, false, 1, 0, 0);
        strata.enter();
        CHECK.due("stratum", strata.stratum(1), 2);
        CHECK.state("49 pairs and more", () -> strata.remove(0));
        CHECK.due("strata are as they were", strata.stratum(1), 2);
        CHECK.due("strata are as they were", strata.stratum(0), 1);
    }
}
