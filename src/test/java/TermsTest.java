/** The sentences of the section "Terms" that name a boundary: at it, just below and just above. */
public final class TermsTest {
    private static final String INDEX = Story.INDEX;
    private static final String ARGUMENT = Story.ARGUMENT;
    private static final String STATE = Story.STATE;
    private static final Check CHECK = new Check("TermsTest");

    private TermsTest() {
    }

    public static void main(String[] args) {
        theFirstOfSeveralExceptions();
        theFirstOfSeveralExceptionsWhenAllIsFull();
        valuesOfFacts();
        valuesOfTerms();
        valuesOfQuestions();
        hours();
        hourOfNow();
        relationsFromFirstToLast();
        relationsThatAreDeclared();
        columnsFromOneToThree();
        numbersBehindTheColumns();
        atMostOneTupleForEachKey();
        leastGreatestAndUnion();
        factsUpTo24();
        factsFromAnHourToAnHour();
        factsUntilTheyAreDropped();
        rulesUpTo12();
        literalsUpToFive();
        atomsThatAreToHoldUpToThree();
        variablesUpToTheEighth();
        sumsUpTo127();
        safeAtomsNotToHold();
        safeComparisons();
        safeSums();
        safeHeads();
        assignments();
        assignmentsOfOneRuleBehindAnother();
        growsNowhereElse();
        growsIntoTheHead();
        growsIntoASum();
        growsNotByAValue();
        strataOfAtoms();
        strataAreTheLeast();
        strataThereAreNone();
        modelsByStrata();
        modelsUpTo48ByFacts();
        modelsUpTo48ByRules();
        modelsUpTo48WithoutAFact();
        modelsUpTo48WithoutARule();
        modelsUpTo48OfKeys();
        questionsAreAboutNow();
        denialsUpToSix();
        denialsAreBroken();
        keysAreBroken();
        goalsWithFree();
        goalsByColumns();
        goalsOfLiterals();
        plansByColumns();
        plansByAllThatAreTaken();
        indexesOfSearches();
        needlessAtoms();
        callsUpTo512();
        CHECK.end();
    }

    private static Story story(String... calls) {
        return new Story(CHECK, calls);
    }

    /** Relations 0 to 2 with as many columns as their number and 1, of tuples. */
    private static Story plain() {
        return story("declare(0, 1, PLAIN, 1)", "declare(1, 2, PLAIN, 2)", "declare(2, 3, PLAIN, 3)");
    }

    private static String[] repeated(int times, String call) {
        String[] calls = new String[times];
        for (int i = 0; i < times; i++) {
            calls[i] = call.replace("#", "" + i);
        }
        return calls;
    }

    // ---- what a call that throws does

    private static void theFirstOfSeveralExceptions() {
        Story story = plain();
        story.refused("declare(10, 0, PLAIN, 1)", INDEX);
        story.refused("declare(-1, 1, PLAIN, 2)", INDEX);
        story.refused("declare(0, 4, 4, 1)", INDEX);
        story.refused("declare(0, 1, -1, 1)", INDEX);
        story.refused("declare(0, 0, PLAIN, 1)", ARGUMENT);
        story.refused("declare(0, 1, PLAIN, 2)", ARGUMENT);
        story.refused("declare(0, 1, PLAIN, 1)", STATE);
        story.refused("fact(3, 128, 0, 0, 0, 2, 1)", INDEX);
        story.refused("head(3, 128, 0, 0)", INDEX);
        story.refused("atom(3, true, 128, 0, 0)", INDEX);
        story.refused("compare(4, 128, 0)", INDEX);
        story.refused("holdsAt(3, 1, 0, 0, 4)", INDEX);
        story.refused("holdsAnew(3, 1, 0, 0, -1)", INDEX);
        story.refused("whyNot(3, 128, 0, 0)", INDEX);
        story.refused("goals(3, 128, 0, 0)", INDEX);
        story.refused("order(0, -1)", INDEX);
    }

    private static void theFirstOfSeveralExceptionsWhenAllIsFull() {
        Story story = plain().tell(repeated(24, "fact(0, #, 0, 0, 1, 0, 3)"));
        story.refused("fact(3, 0, 0, 0, 1, 0, 3)", INDEX);
        story.refused("fact(0, 128, 0, 0, 1, 0, 3)", ARGUMENT);
        story.refused("fact(0, 0, 0, 0, 101, 0, 3)", ARGUMENT);
        story.refused("fact(0, 0, 0, 0, 1, 2, 1)", ARGUMENT);
        story.refused("fact(0, 0, 0, 0, 1, 0, 3)", STATE);
        Story literals = plain().tell(repeated(3, "atom(0, true, -1, 0, 0)"));
        literals.refused("atom(3, true, -1, 0, 0)", INDEX);
        literals.refused("atom(0, true, 128, 0, 0)", ARGUMENT);
        literals.refused("atom(0, true, -1, 0, 0)", STATE);
        literals.tell("compare(SAME, 1, 1)", "compare(SAME, 1, 1)");
        literals.refused("atom(3, false, -1, 0, 0)", INDEX);
        literals.refused("atom(0, false, -9, 0, 0)", ARGUMENT);
        literals.refused("atom(0, false, -1, 0, 0)", STATE);
        literals.refused("compare(4, 1, 1)", INDEX);
        literals.refused("compare(SAME, 128, 1)", ARGUMENT);
        literals.refused("compare(SAME, 1, 1)", STATE);
        literals.refused("add(1, 1, 128)", ARGUMENT);
        literals.refused("add(1, 1, 1)", STATE);
        Story rules = plain();
        for (int rule = 0; rule < 12; rule++) {
            rules.tell("head(0, " + rule + ", 0, 0)").tells("enter()", rule);
        }
        rules.refused("enter()", ARGUMENT);
        rules.tell("head(0, -1, 0, 0)").refused("enter()", ARGUMENT);
        rules.tell("head(0, 0, 0, 0)").refused("enter()", STATE);
        rules.tell("atom(0, false, -1, 0, 0)").refused("enter()", ARGUMENT);
        Story denials = plain();
        for (int denial = 0; denial < 6; denial++) {
            denials.tell("compare(SAME, 1, 1)").tells("deny()", denial);
        }
        denials.refused("deny()", ARGUMENT);
        denials.tell("compare(SAME, -1, 1)").refused("deny()", ARGUMENT);
        denials.tells("clear()", 1).tell("compare(SAME, 1, 1)").refused("deny()", STATE);
    }

    // ---- values, hours, relations, columns

    private static void valuesOfFacts() {
        Story story = plain().tell("declare(3, 2, LEAST, 1)");
        String[] relations = {"0, #, 0, 0", "1, #, 1, 0", "1, 1, #, 0", "2, #, 1, 1", "2, 1, #, 1", "2, 1, 1, #",
            "3, #, 1, 0", "3, 1, #, 0"};
        for (String row : relations) {
            for (int value : new int[] {-1, 128, -9, Integer.MIN_VALUE, Integer.MAX_VALUE}) {
                story.refused("fact(" + row.replace("#", "" + value) + ", 1, 0, 3)", ARGUMENT);
            }
            plain().tell("declare(3, 2, LEAST, 1)", "fact(" + row.replace("#", "0") + ", 1, 0, 3)")
                    .due("holds(" + row.replace("#", "0") + ")", 1)
                    .due("holds(" + row.replace("#", "1") + ")", 0);
            plain().tell("declare(3, 2, LEAST, 1)", "fact(" + row.replace("#", "127") + ", 1, 0, 3)")
                    .due("holds(" + row.replace("#", "127") + ")", 1)
                    .due("holds(" + row.replace("#", "126") + ")", 0);
        }
    }

    private static void valuesOfTerms() {
        Story story = plain().tell("declare(3, 2, LEAST, 1)");
        String[] calls = {"head(0, #, 0, 0)", "head(1, #, 1, 0)", "head(1, 1, #, 0)", "head(2, #, 1, 1)",
            "head(2, 1, #, 1)", "head(2, 1, 1, #)", "head(3, 1, #, 0)", "atom(0, true, #, 0, 0)",
            "atom(1, true, #, 1, 0)", "atom(1, false, 1, #, 0)", "atom(2, true, #, 1, 1)", "atom(2, false, 1, #, 1)",
            "atom(2, true, 1, 1, #)", "atom(3, true, 1, #, 0)", "compare(SAME, #, 1)", "compare(SAME, 1, #)",
            "add(#, 1, 1)", "add(1, #, 1)", "add(1, 1, #)"};
        for (String call : calls) {
            for (int term : new int[] {128, -9, Integer.MIN_VALUE, Integer.MAX_VALUE}) {
                story.refused(call.replace("#", "" + term), ARGUMENT);
            }
            for (int term : new int[] {0, 127, -1, -8}) {
                plain().tell("declare(3, 2, LEAST, 1)", call.replace("#", "" + term))
                        .tells("clear()", call.startsWith("head") ? 0 : 1);
            }
        }
        plain().tell("head(2, 127, 0, 127)", "enter()").due("at(2, 0)", 127 * 16384 + 127);
    }

    private static void valuesOfQuestions() {
        Story story = plain().tell("fact(2, 1, 1, 1, 1, 0, 3)", "declare(3, 2, LEAST, 1)");
        String[] rows = {"0, #, 0, 0", "1, #, 1, 0", "1, 1, #, 0", "2, #, 1, 1", "2, 1, #, 1", "2, 1, 1, #",
            "3, #, 1, 0", "3, 1, #, 0"};
        for (String row : rows) {
            for (int value : new int[] {-1, 128, -8, -10, Integer.MIN_VALUE, Integer.MAX_VALUE}) {
                story.refused("whyNot(" + row.replace("#", "" + value) + ")", ARGUMENT);
                story.refused("goals(" + row.replace("#", "" + value) + ")", ARGUMENT);
                String asked = "(" + row.replace("#", "" + value);
                story.due("holds" + asked + ")", 0).due("ways" + asked + ")", 0).due("needed" + asked + ")", 0);
                story.due("holdsAt" + asked + ", 0)", 0).due("holdsAnew" + asked + ", 0)", 0);
                story.due("cheapest" + asked + ")", -1);
            }
            for (int value : new int[] {0, 127}) {
                story.due("whyNot(" + row.replace("#", "" + value) + ")", -1);
                story.due("goals(" + row.replace("#", "" + value) + ")", 1);
            }
            story.refused("whyNot(" + row.replace("#", "FREE") + ")", ARGUMENT);
            story.due("goals(" + row.replace("#", "FREE") + ")", 1);
        }
    }

    private static void hours() {
        Story story = plain();
        story.refused("fact(0, 1, 0, 0, 1, -1, 0)", ARGUMENT);
        story.refused("fact(0, 1, 0, 0, 1, -1, 3)", ARGUMENT);
        story.refused("fact(0, 1, 0, 0, 1, 4, 4)", ARGUMENT);
        story.refused("fact(0, 1, 0, 0, 1, 4, 3)", ARGUMENT);
        story.refused("fact(0, 1, 0, 0, 1, 0, 4)", ARGUMENT);
        story.refused("fact(0, 1, 0, 0, 1, 3, 4)", ARGUMENT);
        story.refused("fact(0, 1, 0, 0, 1, 0, -1)", ARGUMENT);
        for (String call : new String[] {"holdsAt", "holdsAnew"}) {
            for (int hour : new int[] {-1, 4, Integer.MIN_VALUE, Integer.MAX_VALUE}) {
                story.refused(call + "(0, 1, 0, 0, " + hour + ")", ARGUMENT);
                story.refused(call + "(0, -1, 5, 0, " + hour + ")", ARGUMENT);
            }
            story.due(call + "(0, 1, 0, 0, 0)", 0).due(call + "(0, 1, 0, 0, 3)", 0);
        }
        story.tells("fact(0, 1, 0, 0, 1, 0, 0)", 0).tells("fact(0, 2, 0, 0, 1, 3, 3)", 1);
        story.due("holdsAt(0, 1, 0, 0, 0)", 1).due("holdsAt(0, 2, 0, 0, 3)", 1);
    }

    private static void hourOfNow() {
        Story story = plain().tell(repeated(4, "fact(0, #, 0, 0, 1, #, #)"));
        for (int hour = 0; hour < 4; hour++) {
            story.due("size(0)", 1).due("at(0, 0)", hour * 16384).due("holds(0, " + hour + ", 0, 0)", 1);
            if (hour < 3) {
                story.tells("pass()", hour + 1);
            }
        }
        story.refused("pass()", STATE).due("holds(0, 3, 0, 0)", 1);
    }

    private static void relationsFromFirstToLast() {
        Story story = story("declare(0, 1, PLAIN, 1)", "declare(9, 1, PLAIN, 1)");
        for (int relation : new int[] {-1, 10, Integer.MIN_VALUE, Integer.MAX_VALUE}) {
            story.refused("declare(" + relation + ", 1, PLAIN, 1)", INDEX);
            for (String call : ofRelations(relation)) {
                story.refused(call, INDEX);
            }
        }
        for (int relation = 0; relation < 10; relation++) {
            Story one = story("declare(" + relation + ", 1, PLAIN, 1)");
            one.tell("fact(" + relation + ", 1, 0, 0, 1, 0, 3)").due("at(" + relation + ", 0)", 16384);
            one.tell("head(" + relation + ", 2, 0, 0)", "atom(" + relation + ", true, 1, 0, 0)").tells("enter()", 0);
            one.due("holds(" + relation + ", 2, 0, 0)", 1).due("indexes(" + relation + ")", 1);
            one.due("size(" + relation + ")", 2).due("stratum(" + relation + ")", 0);
            one.due("goals(" + relation + ", 2, 0, 0)", 2).due("whyNot(" + relation + ", 3, 0, 0)", -1);
        }
    }

    /** Calls that a relation has to be declared for, with one column. */
    private static String[] ofRelations(int relation) {
        String[] calls = {"fact(#, 1, 0, 0, 1, 0, 3)", "head(#, 1, 0, 0)", "atom(#, true, 1, 0, 0)",
            "atom(#, false, 1, 0, 0)", "holds(#, 1, 0, 0)", "holdsAt(#, 1, 0, 0, 0)", "holdsAnew(#, 1, 0, 0, 0)",
            "size(#)", "at(#, 0)", "stratum(#)", "ways(#, 1, 0, 0)", "cheapest(#, 1, 0, 0)", "needed(#, 1, 0, 0)",
            "whyNot(#, 1, 0, 0)", "goals(#, 1, 0, 0)", "indexes(#)"};
        for (int i = 0; i < calls.length; i++) {
            calls[i] = calls[i].replace("#", "" + relation);
        }
        return calls;
    }

    private static void relationsThatAreDeclared() {
        for (int relation : new int[] {0, 4, 9}) {
            Story story = story();
            for (String call : ofRelations(relation)) {
                story.refused(call, INDEX);
            }
            story.refused("holds(" + relation + ", 0, 0, 0)", INDEX);
            story.tell("declare(" + relation + ", 1, PLAIN, 1)");
            for (String call : ofRelations(relation)) {
                if (!call.startsWith("whyNot")) {
                    story.tell(call);
                }
            }
            story.due("whyNot(" + relation + ", 2, 0, 0)", -1);
        }
    }

    private static void columnsFromOneToThree() {
        Story story = story();
        for (int columns : new int[] {0, -1, 4, Integer.MIN_VALUE, Integer.MAX_VALUE}) {
            story.refused("declare(0, " + columns + ", PLAIN, 1)", ARGUMENT);
            story.refused("declare(0, " + columns + ", LEAST, " + (columns - 1) + ")", ARGUMENT);
        }
        story.tell("declare(0, 1, PLAIN, 1)", "declare(1, 2, PLAIN, 1)", "declare(2, 3, PLAIN, 1)");
        story.tell("fact(0, 1, 0, 0, 1, 0, 3)", "fact(1, 1, 2, 0, 1, 0, 3)", "fact(2, 1, 2, 3, 1, 0, 3)");
        story.due("at(0, 0)", 16384).due("at(1, 0)", 16384 + 256).due("at(2, 0)", 16384 + 256 + 3);
    }

    private static void numbersBehindTheColumns() {
        Story story = plain().tell("fact(0, 1, 0, 0, 1, 0, 3)", "fact(1, 1, 1, 0, 1, 0, 3)", "fact(2, 1, 1, 1, 1, 0, 3)");
        for (String number : new String[] {"1", "-1", "127", "128", "FREE", "-2147483648"}) {
            String[] rows = {"0, 1, " + number + ", 0", "0, 1, 0, " + number, "1, 1, 1, " + number};
            for (String row : rows) {
                story.refused("fact(" + row + ", 1, 0, 3)", ARGUMENT);
                story.refused("head(" + row + ")", ARGUMENT);
                story.refused("atom(" + row.replaceFirst(", ", ", true, ") + ")", ARGUMENT);
                story.refused("atom(" + row.replaceFirst(", ", ", false, ") + ")", ARGUMENT);
                story.refused("whyNot(" + row + ")", ARGUMENT);
                story.refused("goals(" + row + ")", ARGUMENT);
                story.due("holds(" + row + ")", 0).due("ways(" + row + ")", 0).due("needed(" + row + ")", 0);
                story.due("holdsAt(" + row + ", 0)", 0).due("holdsAnew(" + row + ", 0)", 0);
                story.due("cheapest(" + row + ")", -1);
            }
        }
        story.due("holds(0, 1, 0, 0)", 1).due("holds(1, 1, 1, 0)", 1).due("holds(2, 1, 1, 1)", 1);
        story.due("cheapest(0, 1, 0, 0)", 1).due("cheapest(1, 1, 1, 0)", 1).due("cheapest(2, 1, 1, 1)", 1);
    }

    // ---- kinds of relations

    private static void atMostOneTupleForEachKey() {
        for (String kind : new String[] {"LEAST", "GREATEST", "UNION"}) {
            Story story = story("declare(0, 1, " + kind + ", 0)", "declare(1, 2, " + kind + ", 1)",
                    "declare(2, 3, " + kind + ", 2)", "declare(3, 3, PLAIN, 1)");
            for (int value = 1; value < 4; value++) {
                story.tell("fact(0, " + value + ", 0, 0, 1, 0, 3)", "fact(1, 1, " + value + ", 0, 1, 0, 3)",
                        "fact(2, 1, 1, " + value + ", 1, 0, 3)", "fact(3, 1, 1, " + value + ", 1, 0, 3)");
                story.due("size(0)", 1).due("size(1)", 1).due("size(2)", 1).due("size(3)", value);
            }
            story.tell("fact(1, 2, 3, 0, 1, 0, 3)", "fact(2, 1, 2, 3, 1, 0, 3)", "fact(2, 2, 1, 3, 1, 0, 3)");
            story.due("size(0)", 1).due("size(1)", 2).due("size(2)", 3);
        }
    }

    private static void leastGreatestAndUnion() {
        int[][] values = {{5, 5, 5, 5}, {4, 4, 5, 5}, {6, 4, 6, 7}, {0, 0, 6, 7}, {8, 0, 8, 15}, {112, 0, 112, 127},
            {127, 0, 127, 127}};
        Story story = story("declare(1, 2, LEAST, 1)", "declare(2, 2, GREATEST, 1)", "declare(3, 2, UNION, 1)");
        for (int[] row : values) {
            for (int kind = 1; kind <= 3; kind++) {
                story.tell("fact(" + kind + ", 7, " + row[0] + ", 0, 1, 0, 3)");
                story.due("at(" + kind + ", 0)", 7 * 16384 + 128 * row[kind]);
                for (int value = row[kind] - 1; value <= row[kind] + 1; value++) {
                    story.due("holds(" + kind + ", 7, " + value + ", 0)", value == row[kind] ? 1 : 0);
                }
            }
        }
        Story zeros = story("declare(3, 1, UNION, 0)", "fact(3, 0, 0, 0, 1, 0, 3)").due("at(3, 0)", 0);
        zeros.tell("fact(3, 1, 0, 0, 1, 0, 3)").due("at(3, 0)", 16384).due("size(3)", 1);
        zeros.tells("drop(1)", 1).due("at(3, 0)", 0).tells("drop(0)", 0).due("size(3)", 0);
    }

    // ---- facts

    private static void factsUpTo24() {
        Story story = plain();
        for (int fact = 0; fact < 23; fact++) {
            story.tells("fact(0, " + fact + ", 0, 0, 1, 0, 3)", fact);
        }
        story.refused("drop(23)", INDEX);
        story.tells("fact(0, 23, 0, 0, 1, 0, 3)", 23).due("size(0)", 24);
        story.refused("fact(0, 24, 0, 0, 1, 0, 3)", STATE).refused("fact(0, 0, 0, 0, 1, 3, 3)", STATE);
        story.refused("drop(24)", INDEX);
        story.tells("drop(23)", 23).tells("drop(0)", 22);
        story.refused("fact(0, 24, 0, 0, 1, 0, 3)", STATE).refused("drop(23)", STATE);
    }

    private static void factsFromAnHourToAnHour() {
        for (int from = 0; from < 4; from++) {
            for (int to = from; to < 4; to++) {
                Story story = plain().tell("fact(0, 1, 0, 0, 1, " + from + ", " + to + ")");
                for (int now = 0; now < 4; now++) {
                    for (int hour = 0; hour < 4; hour++) {
                        story.due("holdsAt(0, 1, 0, 0, " + hour + ")", from <= hour && hour <= to ? 1 : 0);
                    }
                    story.due("size(0)", from <= now && now <= to ? 1 : 0);
                    if (now < 3) {
                        story.tell("pass()");
                    }
                }
            }
            if (from > 0) {
                plain().refused("fact(0, 1, 0, 0, 1, " + from + ", " + (from - 1) + ")", ARGUMENT);
            }
        }
    }

    private static void factsUntilTheyAreDropped() {
        Story story = plain().tell("fact(0, 1, 0, 0, 1, 0, 3)", "fact(0, 1, 0, 0, 1, 1, 3)");
        story.tells("drop(0)", 1).due("holds(0, 1, 0, 0)", 0).due("holdsAt(0, 1, 0, 0, 1)", 1);
        story.refused("drop(0)", STATE);
        story.tell("pass()").due("holds(0, 1, 0, 0)", 1).tells("drop(1)", 0).due("holds(0, 1, 0, 0)", 0);
        story.tell("pass()").due("holds(0, 1, 0, 0)", 0).refused("drop(0)", STATE).refused("drop(1)", STATE);
        story.tells("fact(0, 1, 0, 0, 1, 0, 3)", 2).due("ways(0, 1, 0, 0)", 1);
    }

    // ---- rules

    private static void rulesUpTo12() {
        Story story = plain();
        for (int rule = 0; rule < 11; rule++) {
            story.tell("head(0, " + rule + ", 0, 0)").tells("enter()", rule);
        }
        story.refused("remove(11)", INDEX).refused("order(11, 0)", INDEX).refused("joins(11)", INDEX);
        story.tell("head(0, 11, 0, 0)").tells("enter()", 11).due("joins(11)", 0).due("order(11, 0)", -1);
        story.tell("head(0, 12, 0, 0)").refused("enter()", STATE);
        story.refused("joins(12)", INDEX).refused("remove(12)", INDEX).refused("order(12, 0)", INDEX);
        story.tells("remove(11)", 11).tells("remove(0)", 10).refused("enter()", STATE).due("size(0)", 10);
    }

    private static void literalsUpToFive() {
        for (int count = 0; count <= 5; count++) {
            Story story = plain().tell("head(0, 9, 0, 0)");
            for (int i = 0; i < count; i++) {
                story.tells(i % 3 == 0 ? "compare(SAME, 1, 1)" : i % 3 == 1 ? "add(2, 1, 1)" : "atom(1, false, 8, 8, 0)", i + 1);
            }
            if (count == 5) {
                story.refused("compare(SAME, 1, 1)", STATE).refused("add(2, 1, 1)", STATE);
                story.refused("atom(1, false, 8, 8, 0)", STATE).refused("atom(1, true, 8, 8, 0)", STATE);
            }
            story.tells("enter()", 0).due("holds(0, 9, 0, 0)", 1).due("ways(0, 9, 0, 0)", 1).tells("clear()", 0);
        }
        Story last = plain().tell("head(0, 9, 0, 0)").tell(repeated(4, "compare(SAME, 1, 1)"));
        last.tell("compare(SAME, 1, 2)").tells("enter()", 0).due("size(0)", 0).due("whyNot(0, 9, 0, 0)", 4);
    }

    private static void atomsThatAreToHoldUpToThree() {
        Story story = plain().tell("fact(0, 1, 0, 0, 1, 0, 3)", "fact(0, 2, 0, 0, 1, 0, 3)", "head(2, -1, -2, -3)");
        story.tells("atom(0, true, -1, 0, 0)", 1).tells("atom(0, true, -2, 0, 0)", 2).tells("atom(0, true, -3, 0, 0)", 3);
        story.refused("atom(0, true, -1, 0, 0)", STATE).tells("atom(1, false, -1, -2, 0)", 4);
        story.refused("atom(0, true, -1, 0, 0)", STATE).tells("atom(1, false, -1, -2, 0)", 5);
        story.tells("enter()", 0).due("size(2)", 8).due("joins(0)", 3).due("order(0, 2)", 2).due("order(0, 3)", -1);
        Story apart = plain().tell("atom(0, false, 1, 0, 0)", "atom(0, true, 1, 0, 0)", "atom(0, false, 1, 0, 0)");
        apart.tells("atom(0, true, 1, 0, 0)", 4).tells("atom(0, true, 1, 0, 0)", 5).tell("clear()");
        apart.tell(repeated(5, "atom(0, false, 1, 0, 0)")).tells("clear()", 5);
    }

    private static void variablesUpToTheEighth() {
        Story story = plain().tell("declare(3, 3, PLAIN, 3)", "fact(3, 1, 2, 3, 1, 0, 3)", "fact(3, 4, 5, 6, 1, 0, 3)");
        story.tell("head(2, -8, -1, -7)", "atom(3, true, -1, -2, -3)", "atom(3, true, -4, -5, -6)", "add(-7, -3, -6)");
        story.tell("add(-8, -7, -1)", "compare(LESS, -1, -4)").tells("enter()", 0);
        story.due("holds(2, 10, 1, 9)", 1).due("ways(2, 10, 1, 9)", 1).due("goals(2, 10, 1, 9)", 3);
        for (int variable = 1; variable <= 8; variable++) {
            Story one = plain().tell("fact(0, 7, 0, 0, 1, 0, 3)", "head(1, -#, -#, 0)".replace("#", "" + variable));
            one.tell("atom(0, true, -" + variable + ", 0, 0)").tells("enter()", 0).due("at(1, 0)", 7 * 16384 + 7 * 128);
            for (int other = 1; other <= 8; other++) {
                if (other != variable) {
                    one.tell("head(0, -" + other + ", 0, 0)", "atom(0, true, -" + variable + ", 0, 0)");
                    one.refused("enter()", ARGUMENT).tells("clear()", 1);
                }
            }
        }
    }

    private static void sumsUpTo127() {
        int[][] sums = {{0, 0}, {0, 1}, {1, 0}, {126, 0}, {0, 127}, {126, 1}, {127, 1}, {64, 62}, {64, 63}, {63, 64},
            {64, 64}, {127, 127}};
        Story story = plain().tell("head(2, -1, -2, -3)", "atom(1, true, -1, -2, 0)", "add(-3, -1, -2)");
        story.tells("enter()", 0);
        for (int[] sum : sums) {
            story.tell("fact(1, " + sum[0] + ", " + sum[1] + ", 0, 1, 0, 3)");
            int due = Math.min(127, sum[0] + sum[1]);
            story.due("holds(2, " + sum[0] + ", " + sum[1] + ", " + due + ")", 1);
            for (int told = due - 1; told <= due + 1; told++) {
                if (told >= 0 && told <= 127) {
                    Story check = plain().tell("add(" + told + ", " + sum[0] + ", " + sum[1] + ")", "deny()");
                    check.due("broken()", told == due ? 1 : 0);
                }
            }
        }
        story.due("size(2)", sums.length);
    }

    // ---- rules that are safe

    /** Whether a rule, or a denial, of these literals is safe. */
    private static void safe(boolean is, String... literals) {
        Story rule = plain().tell("head(0, 1, 0, 0)").tell(literals);
        Story denial = plain().tell(literals);
        if (is) {
            rule.tells("enter()", 0);
            denial.tells("deny()", 0);
        } else {
            rule.refused("enter()", ARGUMENT);
            denial.refused("deny()", ARGUMENT);
        }
    }

    private static void safeAtomsNotToHold() {
        safe(true, "atom(2, false, 1, 2, 3)");
        for (String terms : new String[] {"-1, 2, 3", "1, -1, 3", "1, 2, -1", "-1, -1, -1"}) {
            safe(false, "atom(2, false, " + terms + ")");
            safe(false, "atom(2, false, " + terms + ")", "atom(0, true, -1, 0, 0)");
            safe(true, "atom(0, true, -1, 0, 0)", "atom(2, false, " + terms + ")");
            safe(true, "add(-1, 1, 1)", "atom(2, false, " + terms + ")");
            safe(false, "atom(0, true, -2, 0, 0)", "atom(2, false, " + terms + ")");
        }
        safe(false, "atom(1, true, -1, -2, 0)", "atom(2, false, -1, -2, -3)");
        safe(true, "atom(2, true, -1, -2, -3)", "atom(2, false, -3, -2, -1)");
    }

    private static void safeComparisons() {
        for (int how = 0; how < 4; how++) {
            safe(true, "compare(" + how + ", 1, 2)");
            for (String terms : new String[] {"-1, 2", "1, -1", "-1, -1"}) {
                safe(false, "compare(" + how + ", " + terms + ")");
                safe(false, "compare(" + how + ", " + terms + ")", "atom(0, true, -1, 0, 0)");
                safe(true, "atom(0, true, -1, 0, 0)", "compare(" + how + ", " + terms + ")");
                safe(true, "add(-1, 1, 1)", "compare(" + how + ", " + terms + ")");
            }
        }
        safe(false, "atom(0, true, -1, 0, 0)", "compare(SAME, -1, -2)", "atom(0, true, -2, 0, 0)");
        safe(false, "compare(SAME, 1, -1)", "compare(SAME, -1, 1)");
    }

    private static void safeSums() {
        safe(true, "add(3, 1, 2)");
        safe(true, "add(-1, 1, 2)");
        safe(true, "add(-1, 1, 2)", "add(-1, 1, 2)");
        for (String terms : new String[] {"-1, -1, 2", "-1, 2, -1", "3, -1, 2", "3, 2, -1", "-2, -1, -1"}) {
            safe(false, "add(" + terms + ")");
            safe(false, "add(" + terms + ")", "atom(0, true, -1, 0, 0)");
            safe(true, "atom(0, true, -1, 0, 0)", "add(" + terms + ")");
            safe(true, "add(-1, 1, 1)", "add(" + terms + ")");
        }
        safe(false, "add(-1, -2, 1)", "add(-2, 1, 1)");
    }

    private static void safeHeads() {
        String[] heads = {"head(0, -1, 0, 0)", "head(1, -1, 3, 0)", "head(1, 3, -1, 0)", "head(2, -1, 1, 1)",
            "head(2, 1, -1, 1)", "head(2, 1, 1, -1)", "head(2, -1, -1, -1)"};
        for (String head : heads) {
            plain().tell(head).refused("enter()", ARGUMENT);
            plain().tell(head, "atom(0, false, 1, 0, 0)").refused("enter()", ARGUMENT);
            plain().tell(head, "atom(0, true, -2, 0, 0)").refused("enter()", ARGUMENT);
            plain().tell(head, "compare(SAME, 1, 1)", "atom(0, true, -1, 0, 0)").tells("enter()", 0);
            plain().tell(head, "add(-1, 1, 1)").tells("enter()", 0);
            plain().tell("add(-1, 1, 1)", head).tells("enter()", 0);
        }
        plain().tell("head(2, -1, -2, -3)", "atom(1, true, -1, -2, 0)").refused("enter()", ARGUMENT);
        plain().tell("head(2, -1, -2, -3)", "atom(1, true, -3, -2, 0)", "add(-1, -2, -3)").tells("enter()", 0);
        plain().tell("head(0, 127, 0, 0)").tells("enter()", 0);
    }

    private static void assignments() {
        Story story = plain().tell("fact(0, 1, 0, 0, 1, 0, 3)", "fact(0, 2, 0, 0, 1, 0, 3)", "fact(1, 1, 1, 0, 1, 0, 3)",
                "fact(1, 1, 2, 0, 1, 0, 3)", "fact(1, 2, 2, 0, 1, 0, 3)");
        story.tell("head(2, 0, 0, 0)", "atom(1, true, -1, -2, 0)").tells("enter()", 0).due("ways(2, 0, 0, 0)", 3);
        story.tell("head(2, 0, 0, 1)", "atom(1, true, -1, -1, 0)").tells("enter()", 1).due("ways(2, 0, 0, 1)", 2);
        story.tell("head(2, 0, 0, 2)", "atom(1, true, -1, 2, 0)").tells("enter()", 2).due("ways(2, 0, 0, 2)", 2);
        story.tell("head(2, 0, 0, 3)", "atom(1, true, -1, -2, 0)", "atom(1, true, -2, -3, 0)").tells("enter()", 3);
        story.due("ways(2, 0, 0, 3)", 4);
        story.tell("head(2, 0, 0, 4)", "atom(0, true, -1, 0, 0)", "atom(1, false, -1, 1, 0)").tells("enter()", 4);
        story.due("ways(2, 0, 0, 4)", 1);
        story.tell("head(2, 0, 0, 5)", "atom(0, true, 3, 0, 0)").tells("enter()", 5).due("holds(2, 0, 0, 5)", 0);
        story.tell("head(2, 0, 0, 6)").tells("enter()", 6).due("ways(2, 0, 0, 6)", 1);
    }

    /** What one rule binds by a literal is not unbound by the literal of another rule that is there. */
    private static void assignmentsOfOneRuleBehindAnother() {
        String[] others = {"atom(0, false, -2, 0, 0)", "compare(OTHER, -2, 5)", "add(-4, -2, 1)"};
        for (String other : others) {
            Story story = plain().tell("declare(3, 1, PLAIN, 1)", "declare(4, 1, PLAIN, 1)", "fact(3, 7, 0, 0, 1, 0, 3)",
                    "fact(4, 1, 0, 0, 1, 0, 3)", "fact(4, 2, 0, 0, 1, 0, 3)");
            story.tell("head(1, -1, -1, 0)", "atom(4, true, -2, 0, 0)", "atom(4, true, -3, 0, 0)", "atom(3, true, -1, 0, 0)");
            story.tells("enter()", 0).due("size(1)", 1).due("at(1, 0)", 7 * 16384 + 7 * 128);
            story.tell("head(2, -1, -2, -3)", "atom(3, true, -1, 0, 0)", "atom(4, true, -2, 0, 0)", other,
                    "atom(4, true, -3, 0, 0)").tells("enter()", 1);
            story.due("size(2)", 4).due("at(2, 0)", 7 * 16384 + 129).due("at(2, 1)", 7 * 16384 + 130);
            story.due("at(2, 2)", 7 * 16384 + 257).due("at(2, 3)", 7 * 16384 + 258);
            story.due("ways(1, 7, 7, 0)", 4).due("ways(2, 7, 2, 2)", 1).due("ways(1, 7, 7, 0)", 4);
        }
    }

    // ---- strata

    /** Relations 0 and 1 of a kind and two columns, 2 of tuples, 3 of another kind. */
    private static Story ofKind(int kind) {
        return story("declare(0, 2, " + kind + ", 1)", "declare(1, 2, " + kind + ", 1)", "declare(2, 2, PLAIN, 2)",
                "declare(3, 2, " + (kind == 1 ? 2 : 1) + ", 1)", "declare(4, 1, " + kind + ", 0)", "declare(5, 1, PLAIN, 1)");
    }

    /** Tells whether the first literal of a rule, of the relation 0, grows; whatever its variables are called. */
    private static void grows(int kind, boolean is, String head, String... literals) {
        for (int by : new int[] {0, 3, 6, 7}) {
            String[] renamed = new String[literals.length];
            for (int i = 0; i < literals.length; i++) {
                renamed[i] = renamed(literals[i], by);
            }
            growsThere(kind, is, renamed(head, by), renamed);
        }
    }

    /** A call with the variable after another one in place of each. */
    private static String renamed(String call, int by) {
        StringBuilder text = new StringBuilder(call);
        for (int i = 0; i < text.length(); i++) {
            if (text.charAt(i) == '-') {
                text.setCharAt(i + 1, (char) ('1' + (text.charAt(i + 1) - '1' + by) % 8));
            }
        }
        return text.toString();
    }

    private static void growsThere(int kind, boolean is, String head, String... literals) {
        int relation = Integer.parseInt(head.substring(5, 6));
        Story story = ofKind(kind).tell(head).tell(literals).tells("enter()", 0).due("stratum(0)", 0);
        story.due("stratum(" + relation + ")", is ? 0 : 1);
        // The same as part of a ring, for which there are strata only if it grows.
        Story ring = ofKind(kind).tell("head(0, -1, 1, 0)");
        ring.tell("atom(" + relation + (relation == 5 ? ", true, -1, 0, 0)" : ", true, -1, -2, 0)")).tells("enter()", 0);
        ring.tell(head).tell(literals);
        if (is) {
            ring.tells("enter()", 1).due("stratum(0)", 0);
        } else {
            ring.refused("enter()", STATE);
        }
    }

    private static void growsNowhereElse() {
        for (int kind = 1; kind <= 3; kind++) {
            grows(kind, true, "head(5, -1, 0, 0)", "atom(0, true, -1, -2, 0)");
            grows(kind, false, "head(5, -1, 0, 0)", "atom(0, true, -1, 3, 0)");
            grows(kind, false, "head(5, -2, 0, 0)", "atom(0, true, -1, -2, 0)");
            grows(kind, false, "head(5, -1, 0, 0)", "atom(0, true, -1, -1, 0)");
            grows(kind, false, "head(5, -1, 0, 0)", "atom(0, true, -1, -2, 0)", "atom(5, true, -2, 0, 0)");
            grows(kind, false, "head(5, -1, 0, 0)", "atom(0, true, -1, -2, 0)", "compare(LESS, -2, 3)");
            grows(kind, false, "head(5, -1, 0, 0)", "atom(0, true, -1, -2, 0)", "compare(LESS, 3, -2)");
            grows(kind, false, "head(5, -1, 0, 0)", "atom(0, true, -1, -2, 0)", "add(-3, -2, 1)");
            grows(kind, false, "head(5, -1, 0, 0)", "atom(0, true, -1, -2, 0)", "add(-2, 1, 1)");
            grows(kind, true, "head(5, -1, 0, 0)", "atom(0, true, -1, -2, 0)", "atom(0, true, -1, -3, 0)");
            grows(kind, false, "head(5, -1, 0, 0)", "atom(0, true, -1, -2, 0)", "atom(0, true, -1, -2, 0)");
        }
    }

    private static void growsIntoTheHead() {
        for (int kind = 1; kind <= 3; kind++) {
            grows(kind, true, "head(1, -1, -2, 0)", "atom(0, true, -1, -2, 0)");
            grows(kind, true, "head(1, 5, -2, 0)", "atom(0, true, -1, -2, 0)");
            grows(kind, false, "head(2, -1, -2, 0)", "atom(0, true, -1, -2, 0)");
            grows(kind, false, "head(3, -1, -2, 0)", "atom(0, true, -1, -2, 0)");
            grows(kind, false, "head(1, -2, 5, 0)", "atom(0, true, -1, -2, 0)");
            grows(kind, false, "head(1, -2, -2, 0)", "atom(0, true, -1, -2, 0)");
            grows(kind, false, "head(1, -1, -2, 0)", "atom(0, true, -1, -2, 0)", "compare(OTHER, -2, 3)");
            grows(kind, false, "head(1, -1, -1, 0)", "atom(0, true, -1, -1, 0)");
            Story narrow = ofKind(kind).tell("head(4, -2, 0, 0)", "atom(0, true, -1, -2, 0)").tells("enter()", 0);
            narrow.due("stratum(4)", 0).tell("head(0, 1, -1, 0)", "atom(4, true, -1, 0, 0)").tells("enter()", 1);
            narrow.due("stratum(0)", 0);
        }
    }

    private static void growsIntoASum() {
        for (int kind = 1; kind <= 3; kind++) {
            boolean ordered = kind != 3;
            grows(kind, ordered, "head(1, -1, -3, 0)", "atom(0, true, -1, -2, 0)", "add(-3, -2, 1)");
            grows(kind, ordered, "head(1, -1, -3, 0)", "atom(0, true, -1, -2, 0)", "add(-3, 1, -2)");
            grows(kind, ordered, "head(1, 5, -3, 0)", "atom(0, true, -1, -2, 0)", "add(-3, -2, -1)");
            grows(kind, ordered, "head(1, 5, -3, 0)", "atom(0, true, -1, -2, 0)", "atom(0, true, -4, -5, 0)",
                    "add(-3, -2, -5)");
            grows(kind, false, "head(1, -1, -3, 0)", "atom(0, true, -1, -2, 0)", "add(-3, -2, -2)");
            grows(kind, false, "head(1, -3, 5, 0)", "atom(0, true, -1, -2, 0)", "add(-3, -2, 1)");
            grows(kind, false, "head(1, -3, -3, 0)", "atom(0, true, -1, -2, 0)", "add(-3, -2, 1)");
            grows(kind, false, "head(1, -1, 5, 0)", "atom(0, true, -1, -2, 0)", "add(-3, -2, 1)");
            grows(kind, false, "head(1, -1, 5, 0)", "atom(0, true, -1, -2, 0)", "add(5, -2, 1)");
            grows(kind, false, "head(2, -1, -3, 0)", "atom(0, true, -1, -2, 0)", "add(-3, -2, 1)");
            grows(kind, false, "head(3, -1, -3, 0)", "atom(0, true, -1, -2, 0)", "add(-3, -2, 1)");
            grows(kind, false, "head(1, -1, -3, 0)", "atom(0, true, -1, -2, 0)", "add(-3, -2, 1)", "compare(LESS, -3, 9)");
            grows(kind, false, "head(1, -1, -3, 0)", "atom(0, true, -1, -2, 0)", "add(-3, -2, 1)", "add(-4, -3, 1)");
            grows(kind, false, "head(1, -1, -2, 0)", "atom(0, true, -1, -2, 0)", "add(-3, -2, 1)");
            grows(kind, false, "head(1, -1, -3, 0)", "atom(0, true, -1, -3, 0)", "add(-3, -1, 1)");
            grows(kind, ordered, "head(1, 5, -3, 0)", "atom(0, true, -1, -2, 0)", "add(-3, -2, 1)", "add(-4, -1, 1)");
            grows(kind, false, "head(1, 5, -3, 0)", "atom(0, true, -1, -2, 0)", "add(-3, -1, 1)", "compare(LESS, -2, 9)");
            grows(kind, false, "head(1, 5, -3, 0)", "atom(0, true, -3, -2, 0)", "compare(LESS, -2, 9)");
            grows(kind, false, "head(1, 5, -1, 0)", "atom(0, true, -3, -2, 0)", "atom(2, true, -3, -1, 0)", "compare(LESS, -2, 9)");
        }
    }

    /** Three columns, so that 0 is nowhere but where it is told. */
    private static void growsNotByAValue() {
        for (int kind = 1; kind <= 3; kind++) {
            for (int value : new int[] {0, 1, 126, 127}) {
                Story story = story("declare(0, 3, " + kind + ", 2)", "declare(1, 3, " + kind + ", 2)", "declare(2, 3, PLAIN, 3)");
                story.tell("head(2, -1, -2, 5)", "atom(0, true, -1, -2, " + value + ")").tells("enter()", 0).due("stratum(2)", 1);
                story.tell("head(1, -1, -2, " + value + ")", "atom(0, true, -1, -2, " + value + ")").tells("enter()", 1);
                story.due("stratum(1)", 1).tells("remove(1)", 1).due("stratum(1)", 0);
                story.tell("head(1, -1, -2, " + value + ")", "atom(0, true, -1, -2, -3)", "add(" + value + ", -3, 5)");
                story.tells("enter()", 2).due("stratum(1)", 1).tells("remove(2)", 1);
                story.tell("head(1, -1, -2, -3)", "atom(0, true, -1, -2, -3)").tells("enter()", 3).due("stratum(1)", 0);
            }
        }
    }

    private static void strataOfAtoms() {
        plain().tell("head(0, -1, 0, 0)", "atom(1, true, -1, -2, 0)", "enter()").due("stratum(0)", 0);
        plain().tell("head(0, -1, 0, 0)", "atom(1, true, -1, -2, 0)", "atom(2, false, 1, 1, 1)", "enter()")
                .due("stratum(0)", 1).due("stratum(1)", 0).due("stratum(2)", 0);
        for (int kind = 1; kind <= 3; kind++) {
            Story story = ofKind(kind).tell("head(1, -1, -2, 0)", "atom(0, false, 1, 2, 0)", "atom(2, true, -1, -2, 0)");
            story.tells("enter()", 0).due("stratum(1)", 1).due("stratum(0)", 0);
            story.tell("head(2, -1, -2, 0)", "atom(1, true, -1, -2, 0)").refused("enter()", STATE).tell("clear()");
            story.tell("head(2, -1, -1, 0)", "atom(1, true, -1, -2, 0)").tells("enter()", 1).due("stratum(2)", 1);
            story.tell("head(5, -1, 0, 0)", "atom(1, true, -1, 5, 0)").tells("enter()", 2).due("stratum(5)", 2);
        }
    }

    private static void strataAreTheLeast() {
        Story story = story(repeated(10, "declare(#, 1, PLAIN, 1)"));
        for (int relation = 9; relation > 0; relation--) {
            story.tell("head(" + relation + ", -1, 0, 0)", "atom(0, true, -1, 0, 0)");
            story.tell("atom(" + (relation - 1) + ", false, -1, 0, 0)").tells("enter()", 9 - relation);
        }
        for (int relation = 0; relation < 10; relation++) {
            story.due("stratum(" + relation + ")", relation);
        }
        story.tell("fact(0, 1, 0, 0, 1, 0, 3)");
        for (int relation = 0; relation < 10; relation++) {
            story.due("size(" + relation + ")", relation % 2 == 0 ? 1 : 0);
        }
        story.tell("head(0, 1, 0, 0)", "atom(9, true, 1, 0, 0)").refused("enter()", STATE).tells("clear()", 1);
        story.tell("head(9, -1, 0, 0)", "atom(9, true, -1, 0, 0)").tells("enter()", 9).due("stratum(9)", 9);
        story.tells("remove(4)", 9);
        for (int relation = 0; relation < 10; relation++) {
            story.due("stratum(" + relation + ")", relation < 5 ? relation : relation - 5);
        }
        story.due("size(5)", 0).due("size(6)", 1).due("size(9)", 0);
    }

    private static void strataThereAreNone() {
        plain().tell("head(0, 1, 0, 0)", "atom(0, false, 2, 0, 0)").refused("enter()", STATE);
        plain().tell("head(0, 1, 0, 0)", "atom(0, true, 2, 0, 0)").tells("enter()", 0).due("stratum(0)", 0);
        Story two = plain().tell("head(0, -1, 0, 0)", "atom(1, true, -1, -2, 0)").tells("enter()", 0);
        two.tell("head(1, -1, -1, 0)", "atom(0, true, -1, 0, 0)", "atom(0, false, 5, 0, 0)").refused("enter()", STATE);
        two.tells("clear()", 2).tell("head(1, -1, -1, 0)", "atom(0, true, -1, 0, 0)").tells("enter()", 1);
        two.due("stratum(0)", 0).due("stratum(1)", 0);
        two.tell("head(2, -1, -1, -1)", "atom(0, true, -1, 0, 0)", "atom(1, false, -1, -1, 0)").tells("enter()", 2);
        two.tell("head(1, -1, -1, 0)", "atom(2, true, -1, -1, -1)").refused("enter()", STATE);
        two.tells("remove(2)", 2).due("stratum(2)", 0).tells("enter()", 3).due("stratum(1)", 0);
        Story ring = story(repeated(10, "declare(#, 1, PLAIN, 1)"));
        for (int relation = 0; relation < 9; relation++) {
            ring.tell("head(" + (relation + 1) + ", -1, 0, 0)", "atom(" + relation + ", true, -1, 0, 0)", "enter()");
        }
        ring.tell("head(0, -1, 0, 0)", "atom(9, true, -1, 0, 0)", "atom(5, false, 1, 0, 0)").refused("enter()", STATE);
        ring.tell("clear()", "head(0, -1, 0, 0)", "atom(9, true, -1, 0, 0)").tells("enter()", 9).due("stratum(9)", 0);
    }

    // ---- models

    private static void modelsByStrata() {
        Story story = plain().tell("declare(3, 1, PLAIN, 1)", "fact(0, 1, 0, 0, 1, 0, 3)", "fact(3, 2, 0, 0, 1, 0, 3)");
        story.tell("head(1, -1, -1, 0)", "atom(0, true, -1, 0, 0)", "atom(3, false, -1, 0, 0)").tells("enter()", 0);
        story.due("size(1)", 1).tell("head(3, 1, 0, 0)", "atom(0, true, 1, 0, 0)").tells("enter()", 1);
        story.due("size(1)", 0).tells("remove(1)", 1).due("size(1)", 1);
        story.tell("fact(3, 1, 0, 0, 1, 0, 3)").due("size(1)", 0);
        Story chain = plain().tell("fact(0, 0, 0, 0, 1, 0, 3)", "head(0, -2, 0, 0)", "atom(0, true, -1, 0, 0)");
        chain.tell("compare(LESS, -1, 47)", "add(-2, -1, 1)").tells("enter()", 0).due("size(0)", 48);
        chain.due("at(0, 47)", 47 * 16384);
        Story rises = story("declare(0, 1, GREATEST, 0)", "fact(0, 0, 0, 0, 1, 0, 3)", "head(0, -2, 0, 0)");
        rises.tell("atom(0, true, -1, 0, 0)", "add(-2, -1, 1)").tells("enter()", 0).due("at(0, 0)", 127 * 16384);
    }

    /** Three tuples for each value of the relation 0; one for each of the relation 2. */
    private static Story threefold() {
        return story("declare(0, 1, PLAIN, 1)", "declare(1, 1, PLAIN, 1)", "declare(2, 1, PLAIN, 1)",
                "declare(3, 1, PLAIN, 1)", "head(1, -1, 0, 0)", "atom(0, true, -1, 0, 0)", "enter()",
                "head(3, -1, 0, 0)", "atom(1, true, -1, 0, 0)", "enter()");
    }

    private static void modelsUpTo48ByFacts() {
        for (int hour = 0; hour < 4; hour++) {
            for (int now = 0; now < 4; now++) {
                String hours = ", 0, 0, 1, " + hour + ", " + hour + ")";
                Story story = threefold().tell(repeated(15, "fact(0, #" + hours)).tell(repeated(now, "pass()"));
                story.tell("fact(2, 1" + hours, "fact(2, 2" + hours).refused("fact(0, 99" + hours, STATE);
                story.tell("fact(2, 3" + hours);
                story.refused("fact(2, 4" + hours, STATE);
                story.refused("fact(2, 4, 0, 0, 1, 0, 3)", STATE);
                story.refused("fact(2, 4, 0, 0, 1, 0, " + hour + ")", STATE);
                story.refused("fact(2, 4, 0, 0, 1, " + hour + ", 3)", STATE);
                story.tells("fact(2, 3, 0, 0, 1, 0, 3)", 18).tells("fact(3, 14, 0, 0, 1, 0, 3)", 19);
                if (hour > 0) {
                    story.tells("fact(2, 4, 0, 0, 1, 0, " + (hour - 1) + ")", 20);
                }
                if (hour < 3) {
                    story.tell("fact(2, 4, 0, 0, 1, " + (hour + 1) + ", 3)");
                }
                story.due("holdsAt(2, 4, 0, 0, " + hour + ")", 0).refused("fact(2, 4" + hours, STATE);
            }
        }
        Story full = threefold().tell(repeated(16, "fact(0, #, 0, 0, 1, 0, 3)"));
        full.due("size(0)", 16).due("size(1)", 16).due("size(3)", 16).refused("fact(2, 0, 0, 0, 1, 3, 3)", STATE);
        full.tells("drop(7)", 15).tells("fact(2, 0, 0, 0, 1, 3, 3)", 16);
    }

    private static void modelsUpTo48ByRules() {
        for (int hour = 0; hour < 4; hour++) {
            for (int now = 0; now < 4; now += 3) {
                String hours = ", 0, 0, 1, " + hour + ", " + hour + ")";
                Story story = threefold().tell(repeated(15, "fact(0, #" + hours)).tell("fact(2, 1" + hours);
                story.tell(repeated(now, "pass()")).tell("head(2, 2, 0, 0)", "atom(2, true, 1, 0, 0)").tells("enter()", 2);
                story.tell("head(2, 3, 0, 0)", "atom(2, true, 2, 0, 0)").tells("enter()", 3);
                story.due("holdsAt(2, 3, 0, 0, " + hour + ")", 1);
                story.tell("head(2, 4, 0, 0)", "atom(2, true, 3, 0, 0)").refused("enter()", STATE).tells("clear()", 1);
                story.tell("head(2, 4, 0, 0)").refused("enter()", STATE).tells("clear()", 0);
                story.tell("head(2, 3, 0, 0)").tells("enter()", 4).due("holdsAt(2, 3, 0, 0, " + (3 - hour) + ")", 1);
                story.tell("head(2, 4, 0, 0)", "atom(2, false, 3, 0, 0)").refused("enter()", STATE);
            }
        }
    }

    /** Six values in each of two relations, and all pairs of them but while 1 is in the relation 3. */
    private static Story stopped(String hours) {
        Story story = story("declare(0, 1, PLAIN, 1)", "declare(1, 1, PLAIN, 1)", "declare(2, 2, PLAIN, 2)",
                "declare(3, 1, PLAIN, 1)");
        story.tell(repeated(6, "fact(0, #, 0, 0, 1, " + hours + ")")).tell(repeated(6, "fact(1, #, 0, 0, 1, " + hours + ")"));
        return story;
    }

    private static Story pairs(Story story) {
        return story.tell("head(2, -1, -2, 0)", "atom(0, true, -1, 0, 0)", "atom(1, true, -2, 0, 0)",
                "atom(3, false, 1, 0, 0)", "enter()");
    }

    private static void modelsUpTo48WithoutAFact() {
        for (int hour = 0; hour < 4; hour++) {
            for (int now = 0; now < 4; now += 3) {
                String hours = hour + ", " + hour;
                Story story = pairs(stopped(hours).tells("fact(3, 1, 0, 0, 1, 0, 3)", 12)).tell(repeated(now, "pass()"));
                story.tells("fact(3, 2, 0, 0, 1, " + hours + ")", 13).refused("drop(12)", STATE);
                story.tells("drop(13)", 13).tells("drop(12)", 12).due("holdsAt(2, 5, 5, 0, " + hour + ")", 1);
                story.refused("fact(3, 2, 0, 0, 1, " + hours + ")", STATE);
                story.tells("fact(3, 1, 0, 0, 1, " + hours + ")", 14).due("holdsAt(2, 5, 5, 0, " + hour + ")", 0);
            }
        }
        Story few = pairs(stopped("0, 3").tells("fact(3, 1, 0, 0, 1, 0, 3)", 12));
        few.tells("drop(0)", 12).tells("fact(3, 2, 0, 0, 1, 0, 3)", 13).tells("drop(12)", 12).due("size(2)", 30);
    }

    private static void modelsUpTo48WithoutARule() {
        for (int hour = 0; hour < 4; hour++) {
            for (int now = 0; now < 4; now += 3) {
                String hours = hour + ", " + hour;
                Story story = stopped(hours).tell("head(3, 1, 0, 0)").tells("enter()", 0).tell(repeated(now, "pass()"));
                pairs(story).tells("fact(3, 2, 0, 0, 1, " + hours + ")", 12).refused("remove(0)", STATE);
                story.tells("drop(12)", 12).tells("remove(0)", 1).due("holdsAt(2, 5, 5, 0, " + hour + ")", 1);
                story.refused("fact(3, 2, 0, 0, 1, " + hours + ")", STATE).refused("remove(0)", STATE);
                story.tells("remove(1)", 0).due("holdsAt(2, 5, 5, 0, " + hour + ")", 0);
            }
        }
    }

    private static void modelsUpTo48OfKeys() {
        Story story = threefold().tell("declare(4, 2, LEAST, 1)").tell(repeated(15, "fact(0, #, 0, 0, 1, 0, 3)"));
        story.tell("fact(4, 1, 5, 0, 1, 0, 3)", "fact(4, 2, 5, 0, 1, 0, 3)", "fact(4, 3, 5, 0, 1, 0, 3)");
        story.refused("fact(4, 4, 5, 0, 1, 0, 3)", STATE).tells("fact(4, 3, 4, 0, 1, 0, 3)", 18);
        story.tells("fact(4, 3, 6, 0, 1, 0, 3)", 19).due("holds(4, 3, 4, 0)", 1).due("size(4)", 3);
        story.tell("head(4, 4, 5, 0)").refused("enter()", STATE).tell("head(4, 3, 3, 0)").tells("enter()", 2);
        story.due("holds(4, 3, 3, 0)", 1).refused("fact(2, 1, 0, 0, 1, 0, 3)", STATE);
    }

    private static void questionsAreAboutNow() {
        Story story = plain().tell("fact(0, 1, 0, 0, 4, 0, 0)", "fact(0, 1, 0, 0, 3, 1, 1)", "fact(0, 2, 0, 0, 1, 1, 3)",
                "fact(0, 1, 0, 0, 2, 3, 3)", "head(1, -1, 5, 0)", "atom(0, true, -1, 0, 0)", "enter()",
                "atom(1, true, 1, -1, 0)", "deny()");
        int[][] due = {{1, 1, 5, 1, 1, 1, 3}, {2, 1, 4, 2, 1, 2, 4}, {1, 0, -1, 0, 0, 0, 3}, {2, 1, 3, 8, 1, 8, 4}};
        for (int hour = 0; hour < 4; hour++) {
            story.due("size(1)", due[hour][0]).due("ways(1, 1, 5, 0)", due[hour][1]);
            story.due("cheapest(1, 1, 5, 0)", due[hour][2]).due("needed(1, 1, 5, 0)", due[hour][3]);
            story.due("broken()", due[hour][4]).due("repair()", due[hour][5]);
            story.due("whyNot(1, 3, 5, 0)", 0).due("goals(1, FREE, FREE, 0)", 2);
            if (hour < 3) {
                story.tell("pass()");
            }
        }
    }

    // ---- constraints

    private static void denialsUpToSix() {
        Story story = plain().tell("fact(0, 1, 0, 0, 1, 0, 3)");
        for (int denial = 0; denial < 6; denial++) {
            story.tell("atom(0, true, 1, 0, 0)").tells("deny()", denial).due("broken()", denial + 1);
        }
        story.tell("atom(0, true, 1, 0, 0)").refused("deny()", STATE).due("broken()", 6).tells("clear()", 1);
        story.due("repair()", 1);
        plain().refused("deny()", ARGUMENT).tell("head(0, 1, 0, 0)").refused("deny()", ARGUMENT);
        plain().tell(repeated(5, "compare(SAME, 1, 1)")).tells("deny()", 0).due("broken()", 1).due("repair()", -1);
    }

    private static void denialsAreBroken() {
        Story story = plain().tell("atom(0, true, -1, 0, 0)", "atom(0, true, -2, 0, 0)", "compare(LESS, -1, -2)", "deny()");
        story.due("broken()", 0).tell("fact(0, 1, 0, 0, 1, 0, 3)").due("broken()", 0);
        story.tell("fact(0, 2, 0, 0, 1, 0, 3)").due("broken()", 1);
        story.tell("fact(0, 3, 0, 0, 1, 0, 3)").due("broken()", 1);
        story.tells("drop(0)", 2).tells("drop(1)", 1).due("broken()", 0);
    }

    private static void keysAreBroken() {
        Story story = story("declare(0, 1, PLAIN, 1)", "declare(1, 2, PLAIN, 1)", "declare(2, 2, PLAIN, 2)",
                "declare(3, 3, PLAIN, 1)", "declare(4, 3, PLAIN, 2)", "declare(5, 3, PLAIN, 3)");
        story.tell("fact(0, 1, 0, 0, 1, 0, 3)", "fact(0, 2, 0, 0, 1, 0, 3)", "fact(2, 1, 1, 0, 1, 0, 3)",
                "fact(2, 1, 2, 0, 1, 0, 3)", "fact(5, 1, 1, 1, 1, 0, 3)", "fact(5, 1, 1, 2, 1, 0, 3)").due("broken()", 0);
        story.tell("fact(1, 1, 1, 0, 1, 0, 3)", "fact(1, 2, 1, 0, 1, 0, 3)", "fact(1, 1, 1, 0, 1, 0, 3)").due("broken()", 0);
        story.tells("fact(1, 1, 0, 0, 1, 0, 3)", 9).due("broken()", 1).due("repair()", 1 << 9);
        story.tell("fact(3, 1, 1, 1, 1, 0, 3)", "fact(3, 2, 1, 1, 1, 0, 3)").due("broken()", 1);
        story.tell("fact(3, 1, 2, 1, 1, 0, 3)").due("broken()", 2).due("repair()", 1 << 9 | 1 << 10);
        story.tell("fact(4, 1, 1, 1, 1, 0, 3)", "fact(4, 1, 2, 1, 1, 0, 3)", "fact(4, 2, 1, 1, 1, 0, 3)").due("broken()", 2);
        story.tell("fact(4, 1, 1, 127, 1, 0, 3)").due("broken()", 3).due("repair()", -1);
        Story apart = story("declare(1, 2, PLAIN, 1)", "fact(1, 1, 127, 0, 1, 0, 3)", "fact(1, 2, 0, 0, 1, 0, 3)");
        apart.due("broken()", 0);
        for (int kind = 1; kind <= 3; kind++) {
            story("declare(0, 2, " + kind + ", 1)", "fact(0, 1, 1, 0, 1, 0, 3)", "fact(0, 1, 2, 0, 1, 0, 3)").due("broken()", 0);
        }
    }

    // ---- goals

    private static void goalsWithFree() {
        Story story = plain().tell("declare(3, 2, LEAST, 1)", "head(1, -1, -2, 0)", "atom(2, true, -1, -2, -3)", "enter()");
        story.tell("head(2, -1, -2, -3)", "atom(1, true, -2, -3, 0)", "add(-1, -2, 1)", "enter()");
        story.due("goals(1, FREE, FREE, 0)", 2).due("goals(1, 4, FREE, 0)", 4).due("goals(1, FREE, 4, 0)", 6);
        story.due("goals(1, 0, 127, 0)", 6).due("goals(2, FREE, FREE, FREE)", 2).due("goals(2, FREE, FREE, 0)", 7);
        story.refused("goals(0, 1, FREE, 0)", ARGUMENT).refused("goals(1, 1, FREE, FREE)", ARGUMENT);
        story.tell("head(2, 9, 9, 9)", "atom(3, true, 5, 6, 0)", "atom(3, true, 5, 7, 0)", "atom(3, false, 5, 8, 0)", "enter()");
        story.due("goals(3, 5, 6, 0)", 1).due("goals(2, 9, 9, 9)", 8);
    }

    private static void goalsByColumns() {
        Story story = plain().tell("head(2, -1, -1, 7)", "atom(0, true, -1, 0, 0)", "atom(1, true, -1, -2, 0)", "enter()");
        story.due("goals(2, 1, 1, 7)", 2).due("goals(2, 1, FREE, 7)", 2).due("goals(2, FREE, 1, FREE)", 2);
        story.due("goals(2, 1, 2, 7)", 1).due("goals(2, 1, 1, 6)", 1).due("goals(2, 1, 1, 8)", 1);
        story.due("goals(2, FREE, FREE, FREE)", 2).due("goals(2, FREE, FREE, 0)", 1);
        story.tell("fact(0, 1, 0, 0, 1, 0, 3)", "fact(0, 2, 0, 0, 1, 0, 3)").due("goals(2, 1, 1, 7)", 3);
        story.due("goals(2, FREE, FREE, FREE)", 4).due("goals(2, 3, FREE, FREE)", 2);
        for (int kind = 1; kind <= 3; kind++) {
            Story last = story("declare(0, 2, " + kind + ", 1)", "declare(1, 1, PLAIN, 1)", "head(0, -1, -2, 0)",
                    "atom(1, true, -2, 0, 0)", "atom(1, true, -1, 0, 0)", "enter()", "fact(1, 4, 0, 0, 1, 0, 3)");
            last.due("goals(0, 4, 4, 0)", 3).due("goals(0, 4, 5, 0)", 3).due("goals(0, FREE, 5, 0)", 2);
            last.tell("head(0, 9, 9, 0)", "atom(1, true, 1, 0, 0)", "enter()").due("goals(0, 9, 8, 0)", 4);
        }
    }

    private static void goalsOfLiterals() {
        Story story = plain().tell("fact(1, 1, 2, 0, 1, 0, 3)", "fact(1, 1, 3, 0, 1, 0, 3)", "fact(0, 2, 0, 0, 1, 0, 3)");
        story.tell("head(2, -1, -1, -1)", "atom(1, true, -1, -2, 0)", "compare(LESS, -2, 3)", "atom(0, false, -2, 0, 0)");
        story.tell("add(-3, -2, 1)", "atom(0, true, -3, 0, 0)").tells("enter()", 0);
        story.due("goals(2, 1, FREE, FREE)", 3).due("goals(2, 2, FREE, FREE)", 2);
        story.tells("drop(2)", 2).due("goals(2, 1, FREE, FREE)", 4);
        story.tells("drop(0)", 1).due("goals(2, 1, FREE, FREE)", 2);
    }

    // ---- plans

    private static void plan(Story story, int rule, int... places) {
        story.tells("enter()", rule);
        for (int i = 0; i < places.length; i++) {
            story.due("order(" + rule + ", " + i + ")", places[i]);
        }
        story.due("order(" + rule + ", " + places.length + ")", -1);
    }

    private static void plansByColumns() {
        Story story = plain().tell("declare(3, 3, PLAIN, 1)");
        plan(story.tell("head(0, 1, 0, 0)"), 0);
        plan(story.tell("head(0, 1, 0, 0)", "compare(SAME, 1, 1)", "atom(1, false, 1, 1, 0)", "add(2, 1, 1)"), 1);
        plan(story.tell("head(0, -1, 0, 0)", "atom(1, true, -1, -2, 0)"), 2, 0);
        plan(story.tell("head(0, -1, 0, 0)", "atom(1, true, -1, -2, 0)", "atom(1, true, -3, -4, 0)"), 3, 0, 1);
        plan(story.tell("head(0, -1, 0, 0)", "atom(1, true, -1, -2, 0)", "atom(1, true, -3, 0, 0)"), 4, 1, 0);
        plan(story.tell("head(0, -1, 0, 0)", "atom(1, true, -1, -2, 0)", "atom(1, true, -3, -4, 0)",
                "atom(1, true, -2, -5, 0)"), 5, 0, 2, 1);
        plan(story.tell("head(0, -1, 0, 0)", "atom(2, true, -1, -2, -3)", "atom(2, true, 1, -2, -1)",
                "atom(2, true, 1, 2, -4)"), 6, 2, 1, 0);
        plan(story.tell("head(0, -1, 0, 0)", "add(-1, 1, 1)", "atom(1, true, -2, -3, 0)", "atom(1, true, -1, -4, 0)"), 7, 1, 2);
        plan(story.tell("head(0, -1, 0, 0)", "atom(1, true, -1, -2, 0)", "atom(1, true, -3, -3, 0)"), 8, 0, 1);
        plan(story.tell("head(0, -1, 0, 0)", "atom(3, true, -1, -2, -3)", "atom(3, true, -1, -4, -5)"), 9, 0, 1);
        story.due("joins(9)", 1);
        plan(story.tell("head(0, 1, 0, 0)", "atom(2, true, -1, -2, -5)", "atom(1, true, 1, 2, 0)", "atom(1, true, -5, -6, 0)"), 10, 1, 0, 2);
        plan(story.tell("head(0, 1, 0, 0)", "add(-5, 1, 1)", "add(3, 1, -5)", "atom(1, true, 1, 2, 0)",
                "atom(1, true, -1, -2, 0)", "atom(1, true, -5, -6, 0)"), 11, 2, 3, 4);
    }

    /** The third atom that is taken searches by variables of both that are taken ahead. */
    private static void plansByAllThatAreTaken() {
        String[][] bodies = {{"-1, -2", "-1, -3", "-2, -3"}, {"-1, -2", "-1, -3", "-1, -3"}, {"-1, -2", "-2, -3", "-3, -1"}};
        for (String[] body : bodies) {
            for (int alone = 0; alone < 2; alone++) {
                Story story = plain().tell("declare(3, 2, PLAIN, 2)", "head(0, -1, 0, 0)", "atom(1, true, " + body[0] + ", 0)",
                        "atom(1, true, " + body[1] + ", 0)", "atom(3, true, " + body[2] + ", 0)");
                story.tells("enter()", 0).due("order(0, 1)", 1).due("order(0, 2)", 2).due("indexes(3)", 1);
                story.tell("head(0, 1, 0, 0)", "atom(3, true, " + (alone == 0 ? "1, -1" : "-1, 1") + ", 0)").tells("enter()", 1);
                story.due("indexes(3)", 1);
            }
        }
    }

    private static void indexesOfSearches() {
        Story story = plain().due("indexes(2)", 0);
        story.tell("head(0, 1, 0, 0)", "atom(2, true, -1, -2, -3)", "enter()").due("indexes(2)", 0);
        story.tell("head(0, 1, 0, 0)", "atom(2, true, -1, -1, -1)", "enter()").due("indexes(2)", 0);
        story.tell("head(0, 1, 0, 0)", "atom(2, false, 1, 1, 1)", "enter()").due("indexes(2)", 0);
        story.tell("head(0, 1, 0, 0)", "atom(2, true, -1, -2, 0)", "enter()").due("indexes(2)", 1);
        story.tell("head(0, 1, 0, 0)", "atom(2, true, -1, 0, -2)", "enter()").due("indexes(2)", 2);
        story.tell("head(0, 1, 0, 0)", "atom(2, true, 0, -1, -2)", "enter()").due("indexes(2)", 3);
        story.tell("head(0, 1, 0, 0)", "atom(2, true, 0, 0, 0)", "enter()").due("indexes(2)", 3);
        story.tell("head(0, 1, 0, 0)", "atom(2, true, 0, 0, -1)", "enter()").due("indexes(2)", 3);
        story.tell("head(0, 1, 0, 0)", "atom(2, true, -1, 0, 0)", "atom(2, true, 0, -1, 0)", "enter()").due("indexes(2)", 3);
        story.tells("remove(3)", 8).tells("remove(4)", 7).tells("remove(5)", 6).due("indexes(2)", 2);
        story.tells("remove(8)", 5).due("indexes(2)", 1).tells("remove(7)", 4).tells("remove(6)", 3).due("indexes(2)", 0);
        Story taken = plain().tell("head(0, -3, 0, 0)", "atom(1, true, -1, -2, 0)", "atom(1, true, -2, -3, 0)", "enter()");
        taken.due("indexes(1)", 1).tell("head(0, 1, 0, 0)", "atom(1, true, -1, -2, 0)", "atom(1, true, -3, -2, 0)", "enter()");
        taken.due("indexes(1)", 2);
    }

    private static void joins(int due, String declared, String... atoms) {
        Story story = story(declared, "declare(1, 1, PLAIN, 1)", "head(1, 1, 0, 0)").tell(atoms).tells("enter()", 0);
        story.due("joins(0)", due);
    }

    private static void needlessAtoms() {
        joins(1, "declare(0, 2, PLAIN, 1)", "atom(0, true, -1, -2, 0)", "atom(0, true, -1, -3, 0)");
        joins(1, "declare(0, 2, PLAIN, 1)", "atom(0, true, 5, 0, 0)", "atom(0, true, 5, 1, 0)", "atom(0, true, 5, 2, 0)");
        joins(2, "declare(0, 2, PLAIN, 2)", "atom(0, true, -1, -2, 0)", "atom(0, true, -1, -2, 0)");
        joins(2, "declare(0, 1, PLAIN, 1)", "atom(0, true, -1, 0, 0)", "atom(0, true, -1, 0, 0)");
        joins(2, "declare(0, 2, PLAIN, 1)", "atom(0, true, -1, -2, 0)", "atom(0, true, -2, -1, 0)");
        joins(2, "declare(0, 2, PLAIN, 1)", "atom(0, true, -1, 0, 0)", "atom(0, true, 1, 0, 0)");
        joins(1, "declare(0, 3, PLAIN, 2)", "atom(0, true, -1, -2, 3)", "atom(0, true, -1, -2, -3)");
        joins(2, "declare(0, 3, PLAIN, 2)", "atom(0, true, -1, -2, 3)", "atom(0, true, -1, -3, 3)");
        joins(1, "declare(0, 3, PLAIN, 1)", "atom(0, true, -1, -2, 3)", "atom(0, true, -1, -3, 3)");
        joins(2, "declare(0, 3, PLAIN, 1)", "atom(0, true, -1, -2, 3)", "atom(0, true, -2, -2, 3)", "atom(0, true, -1, 1, 1)");
        joins(2, "declare(0, 3, PLAIN, 3)", "atom(0, true, -1, -2, 3)", "atom(0, true, -1, -2, 3)");
        joins(1, "declare(0, 2, PLAIN, 1)", "atom(0, false, 1, 2, 0)", "atom(0, true, 1, -1, 0)", "atom(0, false, 1, 3, 0)");
        for (int kind = 1; kind <= 3; kind++) {
            joins(2, "declare(0, 2, " + kind + ", 1)", "atom(0, true, -1, -2, 0)", "atom(0, true, -1, -3, 0)");
        }
        Story two = story("declare(0, 2, PLAIN, 1)", "declare(1, 2, PLAIN, 1)", "head(0, 1, 1, 0)");
        two.tell("atom(0, true, -1, -2, 0)", "atom(1, true, -1, -2, 0)", "enter()").due("joins(0)", 2);
    }

    /** The last call that is promised answers as the first ones, a refused one too. */
    private static void callsUpTo512() {
        Datalogmill mill = new Datalogmill();
        mill.declare(0, 1, Datalogmill.PLAIN, 1);
        mill.fact(0, 1, 0, 0, 1, 0, 3);
        mill.head(0, 2, 0, 0);
        mill.atom(0, true, 1, 0, 0);
        mill.enter();
        for (int call = 6; call < 510; call++) {
            CHECK.due("call " + call, mill.needed(0, 1 + call % 2, 0, 0), 1);
        }
        CHECK.state("calls 510 and 511", () -> mill.remove(mill.remove(0)));
        CHECK.due("call 512", mill.size(0), 1);
    }
}
