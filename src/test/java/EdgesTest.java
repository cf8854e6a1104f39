/**
 * What the sections "Promise 1" to "Promise 29" say of arguments, answers and exceptions: at each
 * boundary, just below and just above; and that a refused call changes nothing.
 */
public final class EdgesTest {
    private static final String INDEX = Story.INDEX;
    private static final String ARGUMENT = Story.ARGUMENT;
    private static final String STATE = Story.STATE;
    private static final int[] FAR = {Integer.MIN_VALUE, Integer.MAX_VALUE};
    private static final Check CHECK = new Check("EdgesTest");

    private EdgesTest() {
    }

    public static void main(String[] args) {
        promise1NewObject();
        promise2Relation();
        promise2Kind();
        promise2Key();
        promise2Declared();
        promise3Cost();
        promise3Number();
        promise3TooManyTuples();
        promise4Left();
        promise4Refused();
        promise5Pass();
        promise6InPlaceOfTheOneBefore();
        promise6Refused();
        promise7Count();
        promise8How();
        promise8Count();
        promise9Count();
        promise10Count();
        promise11Number();
        promise11Refused();
        promise11BehindALongerOne();
        promise12Number();
        promise12HeadIsNotAsked();
        promise13Left();
        promise13Refused();
        promise14AnyNumber();
        promise15AnyHour();
        promise16Anew();
        promise17Size();
        promise18Place();
        promise18Numbers();
        promise19Stratum();
        promise20Count();
        promise20Key();
        promise21LeastAndMostOfAFact();
        promise21UpToAMillion();
        promise21AgainAndAgain();
        promise21EachAsOften();
        promise22Bits();
        promise22TooManyTuples();
        promise22NotInTheModel();
        promise23LiteralsUpToFive();
        promise23TheLowest();
        promise23LastColumn();
        promise23Refused();
        promise24Count();
        promise25OneOrTwo();
        promise25LeastNumber();
        promise25TooManyTuples();
        promise26UpTo400();
        promise26Refused();
        promise27Place();
        promise28Rule();
        promise28Count();
        promise29UpToThree();
        CHECK.end();
    }

    private static Story story(String... calls) {
        return new Story(CHECK, calls);
    }

    /** Relations 0 to 2 with as many columns as their number and 1, of tuples. */
    private static Story plain() {
        return story("declare(0, 1, PLAIN, 1)", "declare(1, 2, PLAIN, 2)", "declare(2, 3, PLAIN, 3)");
    }

    private static String[] repeated(int times, String call) {
        String[] calls = new String[times];
        for (int i = 0; i < times; i++) {
            calls[i] = call.replace("#", "" + i);
        }
        return calls;
    }

    // ---- relations, facts, hours

    private static void promise1NewObject() {
        Story story = story();
        for (int relation = 0; relation < 10; relation++) {
            story.refused("size(" + relation + ")", INDEX);
        }
        story.refused("enter()", ARGUMENT).refused("deny()", ARGUMENT).tells("clear()", 0);
        story.refused("drop(0)", INDEX).refused("remove(0)", INDEX).refused("joins(0)", INDEX);
        story.due("broken()", 0).due("repair()", 0).tells("pass()", 1);
        story().tells("compare(SAME, 1, 1)", 1).tells("deny()", 0).due("broken()", 1);
        story().tell("declare(9, 1, PLAIN, 1)").tells("fact(9, 0, 0, 0, 1, 0, 0)", 0).due("size(9)", 1);
        Datalogmill first = new Datalogmill();
        first.declare(0, 1, Datalogmill.PLAIN, 1);
        first.fact(0, 1, 0, 0, 1, 0, 3);
        first.head(0, 1, 0, 0);
        Datalogmill second = new Datalogmill();
        CHECK.index("another object has other relations", () -> second.size(0));
        CHECK.argument("and another draft", second::enter);
        second.declare(0, 1, Datalogmill.PLAIN, 1);
        CHECK.due("and other facts", second.size(0), 0);
    }

    private static void promise2Relation() {
        Story story = story();
        for (int relation : new int[] {-1, 10, FAR[0], FAR[1]}) {
            story.refused("declare(" + relation + ", 1, PLAIN, 1)", INDEX);
        }
        for (int relation = 0; relation < 10; relation++) {
            story.refused("size(" + relation + ")", INDEX);
            story.tell("declare(" + relation + ", 1, PLAIN, 1)").due("size(" + relation + ")", 0);
        }
    }

    private static void promise2Kind() {
        Story story = story();
        for (int kind : new int[] {-1, 4, FAR[0], FAR[1]}) {
            story.refused("declare(0, 2, " + kind + ", 1)", INDEX).refused("declare(0, 2, " + kind + ", 2)", INDEX);
        }
        int[] due = {-1, 4, 6, 6};
        for (int kind = 0; kind < 4; kind++) {
            Story one = story("declare(0, 2, " + kind + ", 1)", "fact(0, 1, 4, 0, 1, 0, 3)", "fact(0, 1, 6, 0, 1, 0, 3)");
            one.due("size(0)", kind == 0 ? 2 : 1).due("broken()", kind == 0 ? 1 : 0);
            if (kind > 0) {
                one.due("holds(0, 1, " + due[kind] + ", 0)", 1).tell("fact(0, 1, 1, 0, 1, 0, 3)");
                one.due("at(0, 0)", 16384 + 128 * (kind == 1 ? 1 : kind == 2 ? 6 : 7));
            }
        }
    }

    private static void promise2Key() {
        Story story = story();
        for (int columns = 1; columns <= 3; columns++) {
            for (int key : new int[] {-1, 0, columns + 1, 4, FAR[0], FAR[1]}) {
                story.refused("declare(0, " + columns + ", PLAIN, " + key + ")", ARGUMENT);
            }
            for (int key = 1; key <= columns; key++) {
                Story one = story("declare(0, " + columns + ", PLAIN, " + key + ")", "head(0, 1, 0, 0)",
                        "atom(0, true, 1, 0, 0)", "atom(0, true, 1, 0, 0)").tells("enter()", 0);
                one.due("joins(0)", key < columns ? 1 : 2);
            }
            for (int kind = 1; kind < 4; kind++) {
                for (int key : new int[] {-1, columns - 2, columns, columns + 1, FAR[0], FAR[1]}) {
                    story.refused("declare(0, " + columns + ", " + kind + ", " + key + ")", ARGUMENT);
                }
                story("declare(0, " + columns + ", " + kind + ", " + (columns - 1) + ")").due("size(0)", 0);
            }
        }
    }

    private static void promise2Declared() {
        Story story = story("declare(0, 2, PLAIN, 1)", "declare(1, 2, UNION, 1)");
        for (int relation = 0; relation < 2; relation++) {
            story.refused("declare(" + relation + ", 2, PLAIN, 1)", STATE);
            story.refused("declare(" + relation + ", 2, UNION, 1)", STATE);
            story.refused("declare(" + relation + ", 1, LEAST, 0)", STATE);
            story.refused("declare(" + relation + ", 2, LEAST, 2)", ARGUMENT);
        }
        story.tell("fact(0, 1, 1, 0, 1, 0, 3)").refused("declare(0, 2, PLAIN, 1)", STATE);
        story.tell("declare(2, 2, PLAIN, 1)").refused("declare(2, 2, PLAIN, 1)", STATE);
    }

    private static void promise3Cost() {
        Story story = plain();
        for (int cost : new int[] {0, -1, 101, FAR[0], FAR[1]}) {
            story.refused("fact(0, 1, 0, 0, " + cost + ", 0, 3)", ARGUMENT);
        }
        story.tell("fact(0, 1, 0, 0, 1, 0, 3)", "fact(0, 2, 0, 0, 100, 0, 3)");
        story.due("cheapest(0, 1, 0, 0)", 1).due("cheapest(0, 2, 0, 0)", 100);
    }

    private static void promise3Number() {
        Story story = plain().refused("fact(0, 128, 0, 0, 1, 0, 3)", ARGUMENT).refused("fact(3, 1, 0, 0, 1, 0, 3)", INDEX);
        for (int fact = 0; fact < 24; fact++) {
            story.tells("fact(0, " + fact % 2 + ", 0, 0, 1, " + fact % 4 + ", 3)", fact);
        }
        story.refused("fact(0, 0, 0, 0, 1, 0, 3)", STATE).due("ways(0, 0, 0, 0)", 6).tell("pass()");
        story.due("ways(0, 1, 0, 0)", 6).due("ways(0, 0, 0, 0)", 6).tell("pass()", "pass()");
        story.due("ways(0, 1, 0, 0)", 12).refused("fact(0, 0, 0, 0, 1, 0, 3)", STATE);
    }

    private static void promise3TooManyTuples() {
        Story story = plain().tell("head(1, -1, -2, 0)", "atom(0, true, -1, 0, 0)", "atom(0, true, -2, 0, 0)", "enter()");
        story.tell(repeated(6, "fact(0, #, 0, 0, 1, 0, 3)")).due("size(1)", 36);
        for (int from = 0; from < 4; from++) {
            for (int to = from; to < 4; to++) {
                story.refused("fact(0, 6, 0, 0, 1, " + from + ", " + to + ")", STATE);
            }
        }
        story.tell(repeated(6, "fact(2, 1, 1, #, 1, 0, 3)")).refused("fact(2, 1, 1, 6, 1, 0, 0)", STATE);
        story.refused("fact(0, 6, 0, 0, 1, 3, 3)", STATE).tells("fact(0, 5, 0, 0, 1, 3, 3)", 12);
        story.tells("fact(1, 5, 5, 0, 1, 0, 3)", 13).refused("fact(1, 5, 6, 0, 1, 0, 3)", STATE);
    }

    private static void promise4Left() {
        Story story = plain().refused("drop(0)", INDEX).tell(repeated(24, "fact(0, #, 0, 0, 1, 0, 3)"));
        for (int fact : new int[] {-1, 24, FAR[0], FAR[1]}) {
            story.refused("drop(" + fact + ")", INDEX);
        }
        story.tells("drop(23)", 23);
        for (int fact = 0; fact < 23; fact++) {
            story.tells("drop(" + fact + ")", 22 - fact).due("holds(0, " + fact + ", 0, 0)", 0);
            story.due("size(0)", 22 - fact);
        }
        story.refused("drop(0)", STATE).refused("drop(23)", STATE).refused("drop(24)", INDEX);
    }

    private static void promise4Refused() {
        Story story = plain().tell("fact(2, 1, 1, 1, 1, 0, 3)", "fact(2, 1, 1, 1, 1, 0, 1)");
        story.tell(repeated(7, "fact(0, #, 0, 0, 1, 2, 2)")).tell("head(1, -1, -2, 0)", "atom(0, true, -1, 0, 0)",
                "atom(0, true, -2, 0, 0)", "atom(2, false, 1, 1, 1)", "enter()");
        story.tells("drop(1)", 8).refused("drop(0)", STATE).due("holdsAt(2, 1, 1, 1, 2)", 1);
        story.tells("drop(2)", 7).tells("drop(0)", 6).due("holdsAt(1, 1, 6, 0, 2)", 1).due("size(1)", 0);
        story.refused("drop(0)", STATE).refused("drop(1)", STATE).refused("drop(9)", INDEX);
    }

    private static void promise5Pass() {
        Story story = plain().tell("fact(0, 1, 0, 0, 1, 0, 2)");
        for (int hour = 1; hour <= 3; hour++) {
            story.tells("pass()", hour).due("size(0)", hour == 3 ? 0 : 1);
        }
        story.refused("pass()", STATE).refused("pass()", STATE).due("holdsAt(0, 1, 0, 0, 2)", 1);
        story.tell("fact(0, 2, 0, 0, 1, 3, 3)").due("size(0)", 1).refused("pass()", STATE);
    }

    // ---- the draft of a rule

    private static void promise6InPlaceOfTheOneBefore() {
        Story story = plain().tell("head(0, 1, 0, 0)", "head(2, 1, 2, 3)", "head(1, 4, 5, 0)").tells("enter()", 0);
        story.due("size(0)", 0).due("at(1, 0)", 4 * 16384 + 5 * 128).due("size(2)", 0);
        story.tell("head(0, -1, 0, 0)", "head(0, 1, 0, 0)").tells("enter()", 1);
        story.tell("head(0, 1, 0, 0)", "head(0, -1, 0, 0)").refused("enter()", ARGUMENT);
        story.tells("atom(1, true, -1, 5, 0)", 1).tells("enter()", 2).due("holds(0, 4, 0, 0)", 1);
        story.tell("atom(1, true, -1, 5, 0)", "head(0, 1, 0, 0)").tells("compare(SAME, -1, 4)", 2);
        story.tell("head(2, -1, -1, -1)").tells("enter()", 3).due("holds(2, 4, 4, 4)", 1);
    }

    private static void promise6Refused() {
        Story story = plain().tell("head(0, 7, 0, 0)");
        story.refused("head(3, 1, 0, 0)", INDEX).refused("head(-1, 1, 0, 0)", INDEX).refused("head(10, 1, 0, 0)", INDEX);
        story.refused("head(1, 128, 0, 0)", ARGUMENT).refused("head(1, 1, -9, 0)", ARGUMENT);
        story.refused("head(1, 1, 1, 1)", ARGUMENT).refused("head(0, 1, -1, 0)", ARGUMENT);
        story.tells("enter()", 0).due("holds(0, 7, 0, 0)", 1);
    }

    private static void promise7Count() {
        Story story = plain().tell("fact(0, 1, 0, 0, 1, 0, 3)", "head(0, 2, 0, 0)");
        for (int count = 1; count <= 5; count++) {
            story.tells("atom(0, " + (count % 2 == 1) + ", " + (count % 2 == 1 ? 1 : 9) + ", 0, 0)", count);
        }
        story.refused("atom(0, false, 9, 0, 0)", STATE).refused("atom(0, true, 1, 0, 0)", STATE);
        story.refused("enter()", STATE).tell("head(1, 2, 2, 0)").tells("enter()", 0).due("holds(1, 2, 2, 0)", 1);
        Story holding = plain().tell(repeated(3, "atom(0, true, 1, 0, 0)")).refused("atom(0, true, 1, 0, 0)", STATE);
        holding.tells("clear()", 3).tells("atom(0, true, 1, 0, 0)", 1).tells("atom(0, true, 1, 0, 0)", 2);
        holding.tells("compare(SAME, 1, 1)", 3).tells("atom(0, true, 1, 0, 0)", 4);
        holding.refused("atom(0, true, 1, 0, 0)", STATE).tells("atom(0, false, 1, 0, 0)", 5);
    }

    private static void promise8How() {
        Story story = plain();
        for (int how : new int[] {-1, 4, FAR[0], FAR[1]}) {
            story.refused("compare(" + how + ", 1, 1)", INDEX);
        }
        for (int how = 0; how < 4; how++) {
            for (int first = 4; first <= 6; first++) {
                boolean due = how == 0 ? first == 5 : how == 1 ? first != 5 : how == 2 ? first < 5 : first <= 5;
                plain().tells("compare(" + how + ", " + first + ", 5)", 1).tells("deny()", 0).due("broken()", due ? 1 : 0);
                plain().tell("fact(1, " + first + ", 5, 0, 1, 0, 3)", "atom(1, true, -1, -2, 0)")
                        .tells("compare(" + how + ", -1, -2)", 2).tells("deny()", 0).due("broken()", due ? 1 : 0);
            }
            plain().tell("compare(" + how + ", 127, 0)", "deny()").due("broken()", how == 1 ? 1 : 0);
            plain().tell("compare(" + how + ", 0, 127)", "deny()").due("broken()", how == 0 ? 0 : 1);
        }
    }

    private static void promise8Count() {
        Story story = plain();
        for (int count = 1; count <= 5; count++) {
            story.tells("compare(LESS, 1, 2)", count);
        }
        story.refused("compare(LESS, 1, 2)", STATE).tells("deny()", 0).tells("compare(LESS, 1, 2)", 1);
    }

    private static void promise9Count() {
        Story story = plain();
        for (int count = 1; count <= 5; count++) {
            story.tells("add(-" + count + ", 1, 2)", count);
        }
        story.refused("add(-6, 1, 2)", STATE).tells("deny()", 0).tells("add(3, 1, 2)", 1);
    }

    private static void promise10Count() {
        for (int count = 0; count <= 5; count++) {
            Story story = plain().tell("head(0, 1, 0, 0)").tell(repeated(count, "atom(0, false, #, 0, 0)"));
            story.tells("clear()", count).tells("clear()", 0).refused("enter()", ARGUMENT).refused("deny()", ARGUMENT);
            story.tell("head(0, 1, 0, 0)").tells("enter()", 0).due("holds(0, 1, 0, 0)", 1).due("ways(0, 1, 0, 0)", 1);
        }
        Story atoms = plain().tell(repeated(3, "atom(0, true, #, 0, 0)")).tells("clear()", 3);
        atoms.tell(repeated(3, "atom(0, true, #, 0, 0)")).tells("clear()", 3);
    }

    private static void promise11Number() {
        Story story = plain();
        for (int rule = 0; rule < 12; rule++) {
            story.refused("joins(" + rule + ")", INDEX).tell("head(0, " + rule + ", 0, 0)").tells("enter()", rule);
            story.due("joins(" + rule + ")", 0).tells("clear()", 0);
        }
        story.tell("head(0, 12, 0, 0)").refused("enter()", STATE).due("size(0)", 12);
        story.tells("remove(5)", 11).refused("enter()", STATE).tells("clear()", 0).refused("enter()", ARGUMENT);
    }

    private static void promise11Refused() {
        Story story = plain().tell("compare(SAME, 1, 1)").refused("enter()", ARGUMENT);
        story.tell("head(0, 5, 0, 0)").tells("enter()", 0).refused("enter()", ARGUMENT);
        story.tell("head(0, -1, 0, 0)").refused("enter()", ARGUMENT).tell("atom(0, true, -1, 0, 0)").tells("enter()", 1);
        story.tell("head(0, 1, 0, 0)", "atom(0, false, 9, 0, 0)").refused("enter()", STATE).tells("clear()", 1);
        story.tell("head(2, -1, -2, -3)", "atom(1, true, -1, -4, 0)", "atom(1, true, -2, -5, 0)", "atom(1, true, -3, -6, 0)");
        story.tells("enter()", 2).tell(repeated(3, "fact(1, #, 0, 0, 1, 0, 3)")).due("size(2)", 27);
        story.refused("fact(1, 3, 0, 0, 1, 0, 3)", STATE).tell("head(1, 3, 0, 0)").refused("enter()", STATE);
        story.tell("head(1, 2, 1, 0)").tells("enter()", 3).due("size(2)", 27);
    }

    /** A rule that takes the place of a longer one that was refused, or of a longer draft. */
    private static void promise11BehindALongerOne() {
        Story story = plain().tell("declare(3, 2, LEAST, 1)", "head(0, -1, 0, 0)", "atom(3, true, -1, -2, 0)");
        story.tell("atom(0, false, -2, 0, 0)", "compare(LESS, -2, 5)").refused("enter()", STATE).tells("clear()", 3);
        story.tell("head(0, -1, 0, 0)", "atom(3, true, -1, -2, 0)").tells("enter()", 0).due("stratum(0)", 0);
        story.due("joins(0)", 1).due("order(0, 1)", -1).due("goals(0, 1, 0, 0)", 2);
        story.tell("fact(3, 1, 9, 0, 1, 0, 3)").due("holds(0, 1, 0, 0)", 1).due("ways(0, 1, 0, 0)", 1);
        story.tell("head(2, -1, -1, -1)", "atom(0, true, -1, 0, 0)", "enter()", "head(2, 1, 2, 3)", "head(0, 4, 0, 0)");
        story.tells("enter()", 2).due("holds(0, 4, 0, 0)", 1).due("holds(2, 4, 4, 4)", 1).due("size(2)", 2);
        Story sum = plain().tell("declare(3, 2, LEAST, 1)", "declare(4, 2, LEAST, 1)", "head(0, 5, 0, 0)", "atom(3, true, -1, -2, 0)");
        sum.tell("atom(0, false, 1, 0, 0)", "compare(SAME, 1, 1)", "add(-3, -2, 1)").refused("enter()", STATE).tells("clear()", 4);
        sum.tell("head(4, 5, -3, 0)", "atom(3, true, -1, -2, 0)", "compare(LESS, -2, 9)", "atom(1, true, -4, -3, 0)");
        sum.tells("enter()", 0).due("stratum(4)", 1);
    }

    private static void promise12Number() {
        Story story = plain();
        for (int denial = 0; denial < 6; denial++) {
            story.refused("deny()", ARGUMENT).tell("head(0, -1, 0, 0)", "compare(SAME, 2, " + denial + ")");
            story.tells("deny()", denial).refused("enter()", ARGUMENT).tells("clear()", 0);
        }
        story.due("broken()", 1).tell("compare(SAME, 2, 2)").refused("deny()", STATE).due("broken()", 1);
        story.tell("head(0, 1, 0, 0)").tells("enter()", 0).due("holds(0, 1, 0, 0)", 1);
    }

    private static void promise12HeadIsNotAsked() {
        plain().tell("head(0, -1, 0, 0)", "compare(SAME, 1, 1)").refused("enter()", ARGUMENT).tells("deny()", 0);
        plain().tell("head(0, 1, 0, 0)").refused("deny()", ARGUMENT).tells("enter()", 0);
        plain().tell("head(0, 1, 0, 0)", "atom(0, false, 1, 0, 0)").refused("enter()", STATE).tells("deny()", 0)
                .due("broken()", 1).due("stratum(0)", 0).due("size(0)", 0);
        plain().tell("head(0, -1, 0, 0)", "atom(0, false, -1, 0, 0)").refused("deny()", ARGUMENT);
        Story full = plain();
        for (int rule = 0; rule < 12; rule++) {
            full.tell("head(0, " + rule + ", 0, 0)").tells("enter()", rule);
        }
        full.tell("head(0, 9, 0, 0)", "compare(SAME, 1, 1)").refused("enter()", STATE).tells("deny()", 0).due("broken()", 1);
    }

    private static void promise13Left() {
        Story story = plain().refused("remove(0)", INDEX);
        for (int rule = 0; rule < 12; rule++) {
            story.tell("head(0, " + rule + ", 0, 0)").tells("enter()", rule);
        }
        for (int rule : new int[] {-1, 12, FAR[0], FAR[1]}) {
            story.refused("remove(" + rule + ")", INDEX);
        }
        for (int rule = 11; rule >= 0; rule--) {
            story.due("holds(0, " + rule + ", 0, 0)", 1).tells("remove(" + rule + ")", rule);
            story.due("size(0)", rule).refused("remove(" + rule + ")", STATE);
        }
        story.refused("remove(11)", STATE).refused("remove(12)", INDEX);
    }

    private static void promise13Refused() {
        Story story = plain().tell("head(0, 9, 0, 0)", "enter()", "head(2, -1, -2, -3)", "atom(1, true, -1, 1, 0)",
                "atom(1, true, -2, 1, 0)", "atom(1, true, -3, 1, 0)", "atom(0, false, 9, 0, 0)", "enter()");
        story.tell(repeated(4, "fact(1, #, 1, 0, 1, 3, 3)")).refused("remove(0)", STATE);
        story.tells("drop(0)", 3).tells("remove(0)", 1).due("holdsAt(2, 1, 2, 3, 3)", 1).due("size(2)", 0);
        story.refused("remove(0)", STATE).tells("remove(1)", 0).due("holdsAt(2, 1, 2, 3, 3)", 0);
    }

    // ---- models

    /** Numbers that would be those of the tuple 1, 2, 3 if columns ran over into one another. */
    private static void promise14AnyNumber() {
        Story story = plain().tell("fact(2, 1, 2, 3, 5, 0, 3)", "fact(2, 0, 0, 0, 5, 0, 3)", "fact(2, 127, 127, 127, 5, 0, 3)");
        String[] others = {"0, 130, 3", "1, 1, 131", "2, -126, 3", "1, 3, -125", "262145, 2, 3", "1, 33554434, 3",
            "-262143, 2, 3", "1, 2, 4", "1, 2, 2", "1, 3, 3", "1, 1, 3", "2, 2, 3", "0, 2, 3", "-1, 127, 128",
            "128, 0, 0", "127, 128, 0", "127, 127, 128", "-1, 0, 0", "0, -1, 0", "0, 0, -1", "0, 0, 16384", "1, 2, FREE",
            "-2147483648, 2, 3", "1, 2147483647, 3", "1, 2, -2147483648", "-8, -8, -8", "65536, 0, 0"};
        for (String row : others) {
            story.due("holds(2, " + row + ")", 0).due("ways(2, " + row + ")", 0).due("needed(2, " + row + ")", 0);
            story.due("cheapest(2, " + row + ")", -1);
            for (int hour = 0; hour < 4; hour++) {
                story.due("holdsAt(2, " + row + ", " + hour + ")", 0).due("holdsAnew(2, " + row + ", " + hour + ")", 0);
            }
        }
        for (String row : new String[] {"1, 2, 3", "0, 0, 0", "127, 127, 127"}) {
            story.due("holds(2, " + row + ")", 1).due("ways(2, " + row + ")", 1).due("cheapest(2, " + row + ")", 5);
        }
        for (int relation : new int[] {-1, 3, 9, 10, FAR[0], FAR[1]}) {
            story.refused("holds(" + relation + ", 1, 2, 3)", INDEX);
        }
    }

    private static void promise15AnyHour() {
        Story story = plain().tell("fact(0, 1, 0, 0, 1, 1, 2)", "head(1, -1, -1, 0)", "atom(0, true, -1, 0, 0)", "enter()");
        for (int now = 0; now < 4; now++) {
            for (int hour = 0; hour < 4; hour++) {
                story.due("holdsAt(1, 1, 1, 0, " + hour + ")", hour == 1 || hour == 2 ? 1 : 0);
            }
            story.refused("holdsAt(1, 1, 1, 0, -1)", ARGUMENT).refused("holdsAt(1, 1, 1, 0, 4)", ARGUMENT);
            story.refused("holdsAt(3, 1, 1, 0, 0)", INDEX);
            if (now < 3) {
                story.tell("pass()");
            }
        }
        story.tell("fact(0, 2, 0, 0, 1, 0, 0)").due("holdsAt(1, 2, 2, 0, 0)", 1).due("holdsAt(1, 2, 2, 0, 1)", 0);
    }

    private static void promise16Anew() {
        Story story = story("declare(0, 2, LEAST, 1)", "declare(1, 2, PLAIN, 2)", "declare(2, 1, PLAIN, 1)");
        story.tell("head(0, -2, -4, 0)", "atom(0, true, -1, -3, 0)", "atom(1, true, -1, -2, 0)", "add(-4, -3, 1)", "enter()");
        story.tell("head(2, -1, 0, 0)", "atom(1, true, -1, -2, 0)", "atom(0, false, -1, 1, 0)", "enter()");
        story.tell("fact(0, 0, 0, 0, 1, 0, 3)", "fact(1, 0, 1, 0, 1, 0, 3)", "fact(1, 1, 2, 0, 1, 1, 2)", "fact(1, 2, 0, 0, 1, 2, 3)");
        int[][] leasts = {{0, 1, -1}, {0, 1, 2}, {0, 1, 2}, {0, 1, -1}};
        for (int now = 0; now < 4; now++) {
            for (int hour = 0; hour < 4; hour++) {
                for (int place = 0; place < 3; place++) {
                    for (int value = 0; value < 4; value++) {
                        int due = leasts[hour][place] == value ? 1 : 0;
                        story.due("holdsAnew(0, " + place + ", " + value + ", 0, " + hour + ")", due);
                        story.due("holdsAt(0, " + place + ", " + value + ", 0, " + hour + ")", due);
                    }
                }
                story.due("holdsAnew(2, 1, 0, 0, " + hour + ")", 0).due("holdsAnew(2, 2, 0, 0, " + hour + ")", hour > 1 ? 1 : 0);
            }
            story.refused("holdsAnew(0, 1, 1, 0, -1)", ARGUMENT).refused("holdsAnew(0, 1, 1, 0, 4)", ARGUMENT);
            story.refused("holdsAnew(3, 1, 1, 0, 0)", INDEX);
            if (now < 3) {
                story.tell("pass()");
            }
        }
        Story full = plain().tell(repeated(24, "fact(0, #, 0, 0, 1, 3, 3)")).tell("head(1, -1, 7, 0)",
                "atom(0, true, -1, 0, 0)", "enter()").due("holdsAnew(1, 23, 7, 0, 3)", 1).due("holdsAnew(1, 24, 7, 0, 3)", 0);
        full.refused("fact(0, 24, 0, 0, 1, 3, 3)", STATE).due("holdsAnew(1, 0, 7, 0, 2)", 0);
    }

    private static void promise17Size() {
        Story story = plain().due("size(0)", 0).tell("fact(0, 0, 0, 0, 1, 0, 3)").due("size(0)", 1);
        story.tell("head(0, -2, 0, 0)", "atom(0, true, -1, 0, 0)", "compare(LESS, -1, 46)", "add(-2, -1, 1)", "enter()");
        story.due("size(0)", 47).due("size(1)", 0).tell("fact(0, 60, 0, 0, 1, 1, 3)").due("size(0)", 47).tell("pass()");
        story.due("size(0)", 48).refused("fact(1, 1, 1, 0, 1, 1, 1)", STATE);
        for (int relation : new int[] {-1, 3, 9, 10, FAR[0], FAR[1]}) {
            story.refused("size(" + relation + ")", INDEX);
        }
        story.tells("drop(0)", 1).due("size(0)", 1).tells("drop(1)", 0).due("size(0)", 0);
    }

    private static void promise18Place() {
        Story story = plain().refused("at(0, 0)", INDEX).refused("at(3, 0)", INDEX).refused("at(-1, 0)", INDEX);
        story.tell("fact(0, 0, 0, 0, 1, 0, 3)").due("at(0, 0)", 0).refused("at(0, 1)", INDEX).refused("at(0, -1)", INDEX);
        story.tell("head(0, -2, 0, 0)", "atom(0, true, -1, 0, 0)", "compare(LESS, -1, 47)", "add(-2, -1, 1)", "enter()");
        for (int place = 0; place < 48; place++) {
            story.due("at(0, " + place + ")", place * 16384);
        }
        for (int place : new int[] {-1, 48, 49, FAR[0], FAR[1]}) {
            story.refused("at(0, " + place + ")", INDEX);
        }
        story.refused("at(1, 0)", INDEX);
    }

    private static void promise18Numbers() {
        int[][] rows = {{0, 0, 0}, {0, 0, 1}, {0, 0, 127}, {0, 1, 0}, {0, 127, 126}, {0, 127, 127}, {1, 0, 0}, {1, 0, 5},
            {1, 5, 0}, {126, 127, 127}, {127, 0, 0}, {127, 127, 126}, {127, 127, 127}};
        Story story = plain();
        int[] order = {7, 0, 12, 3, 9, 1, 11, 5, 10, 2, 8, 4, 6};
        for (int place : order) {
            story.tell("fact(2, " + rows[place][0] + ", " + rows[place][1] + ", " + rows[place][2] + ", 1, 0, 3)");
        }
        for (int place = 0; place < rows.length; place++) {
            story.due("at(2, " + place + ")", 16384 * rows[place][0] + 128 * rows[place][1] + rows[place][2]);
        }
        story.refused("at(2, 13)", INDEX);
    }

    private static void promise19Stratum() {
        Story story = plain();
        for (int relation : new int[] {-1, 3, 9, 10, FAR[0], FAR[1]}) {
            story.refused("stratum(" + relation + ")", INDEX);
        }
        story.due("stratum(0)", 0).due("stratum(2)", 0);
        story.tell("head(1, 1, 1, 0)", "atom(0, false, 1, 0, 0)").tells("enter()", 0).due("stratum(1)", 1);
        story.tell("head(2, 1, 1, 1)", "atom(1, true, 1, 1, 0)").tells("enter()", 1).due("stratum(2)", 1);
        story.tell("head(2, 1, 1, 1)", "atom(1, false, 1, 1, 0)").tells("enter()", 2).due("stratum(2)", 2);
        story.tells("remove(2)", 2).due("stratum(2)", 1).tells("remove(0)", 1).due("stratum(2)", 0).due("stratum(1)", 0);
    }

    // ---- where tuples come from

    private static void promise20Count() {
        Story story = plain().due("ways(0, 1, 0, 0)", 0);
        for (int fact = 0; fact < 24; fact++) {
            story.tell("fact(0, 1, 0, 0, 1, 0, 3)").due("ways(0, 1, 0, 0)", fact + 1);
        }
        for (int rule = 0; rule < 11; rule++) {
            story.tell("head(0, 1, 0, 0)", "enter()").due("ways(0, 1, 0, 0)", 25 + rule);
        }
        story.tell("head(0, -1, 0, 0)", "atom(0, true, -1, 0, 0)", "enter()").due("ways(0, 1, 0, 0)", 36);
        story.tells("drop(0)", 23).tells("remove(0)", 11).due("ways(0, 1, 0, 0)", 34).due("ways(0, 2, 0, 0)", 0);
        Story pairs = plain().tell(repeated(6, "fact(0, #, 0, 0, 1, 0, 3)")).tell("head(1, 9, 9, 0)", "atom(0, true, -1, 0, 0)",
                "atom(0, true, -2, 0, 0)", "atom(0, true, -3, 0, 0)", "enter()").due("ways(1, 9, 9, 0)", 216);
        pairs.tell("head(1, -1, 9, 0)", "atom(0, true, -1, 0, 0)", "atom(0, true, -2, 0, 0)", "compare(AT_MOST, -1, -2)", "enter()");
        for (int value = 0; value < 6; value++) {
            pairs.due("ways(1, " + value + ", 9, 0)", 6 - value);
        }
        for (int relation : new int[] {-1, 3, 10}) {
            pairs.refused("ways(" + relation + ", 1, 0, 0)", INDEX);
        }
    }

    private static void promise20Key() {
        for (int kind = 1; kind < 4; kind++) {
            int value = kind == 1 ? 1 : kind == 2 ? 2 : 3;
            Story story = story("declare(0, 2, " + kind + ", 1)", "declare(1, 2, PLAIN, 2)", "fact(0, 5, 1, 0, 1, 0, 3)",
                    "fact(0, 5, 2, 0, 1, 0, 3)", "fact(0, 6, 2, 0, 1, 0, 3)", "fact(1, 5, 1, 0, 1, 0, 3)", "fact(1, 5, 2, 0, 1, 0, 3)");
            story.due("ways(0, 5, " + value + ", 0)", 2).due("ways(0, 5, 0, 0)", 0).due("ways(0, 6, 2, 0)", 1);
            story.tell("head(0, -1, -2, 0)", "atom(1, true, -1, -2, 0)", "enter()").due("ways(0, 5, " + value + ", 0)", 4);
            story.tell("head(0, -1, 2, 0)", "atom(1, true, -1, -2, 0)", "enter()").due("ways(0, 5, " + value + ", 0)", 6);
            story.due("ways(0, 5, " + (kind == 1 ? 2 : 1) + ", 0)", 0);
        }
    }

    private static void promise21LeastAndMostOfAFact() {
        Story story = plain().due("cheapest(0, 1, 0, 0)", -1).tell("fact(0, 1, 0, 0, 100, 0, 3)");
        story.due("cheapest(0, 1, 0, 0)", 100).tell("fact(0, 1, 0, 0, 2, 0, 3)").due("cheapest(0, 1, 0, 0)", 2);
        story.tell("fact(0, 1, 0, 0, 1, 1, 3)").due("cheapest(0, 1, 0, 0)", 2).tell("pass()").due("cheapest(0, 1, 0, 0)", 1);
        story.tells("drop(2)", 2).due("cheapest(0, 1, 0, 0)", 2).tell("head(0, 1, 0, 0)", "enter()").due("cheapest(0, 1, 0, 0)", 1);
        story.tells("remove(0)", 0).tells("drop(1)", 1).due("cheapest(0, 1, 0, 0)", 100).tells("drop(0)", 0);
        story.due("cheapest(0, 1, 0, 0)", -1);
        for (int relation : new int[] {-1, 3, 10}) {
            story.refused("cheapest(" + relation + ", 1, 0, 0)", INDEX);
        }
    }

    /** The relation 0 has tuples of 100, 301, 904 .. 659380; with the last fact the sum of some of them is near a million. */
    private static void promise21UpToAMillion() {
        for (int cost = 23; cost <= 27; cost++) {
            Story story = plain().tell("declare(3, 1, PLAIN, 1)", "fact(0, 0, 0, 0, 100, 0, 3)");
            story.tell("fact(3, 0, 0, 0, " + cost + ", 0, 3)", "head(0, -2, 0, 0)").tell(repeated(3, "atom(0, true, -1, 0, 0)"));
            story.tell("compare(LESS, -1, 10)", "add(-2, -1, 1)", "enter()").due("cheapest(0, 8, 0, 0)", 659380);
            int[][] parts = {{0, 0}, {2, 1}, {3, 3}, {4, 4}, {6, 5}, {8, 7}};
            for (int i = 0; i < parts.length; i++) {
                story.tell("head(3, " + (i + 1) + ", 0, 0)", "atom(0, true, " + parts[i][0] + ", 0, 0)",
                        "atom(0, true, " + parts[i][1] + ", 0, 0)", "atom(3, true, " + i + ", 0, 0)", "enter()");
            }
            story.due("cheapest(3, 5, 0, 0)", 120801 + cost).due("cheapest(3, 6, 0, 0)", Math.min(1000000, 999975 + cost));
            story.due("cheapest(0, 9, 0, 0)", 1000000).due("cheapest(0, 10, 0, 0)", 1000000);
            story.due("cheapest(0, 11, 0, 0)", -1).tell("fact(0, 9, 0, 0, 100, 0, 3)").due("cheapest(0, 10, 0, 0)", 301);
        }
    }

    /** Costs that go on from the last tuple to the first one, and from later rules to earlier ones. */
    private static void promise21AgainAndAgain() {
        Story story = plain().tell(repeated(9, "fact(0, #, 0, 0, 100, 0, 3)")).tell("fact(1, 9, 1, 0, 3, 0, 3)");
        for (int place = 0; place < 9; place++) {
            story.tell("head(0, " + place + ", 0, 0)", "atom(0, true, " + (place + 1) + ", 0, 0)", "enter()");
        }
        story.tell("head(0, 9, 0, 0)", "atom(1, true, 9, -1, 0)", "enter()");
        for (int place = 0; place <= 9; place++) {
            story.due("cheapest(0, " + place + ", 0, 0)", 13 - place);
        }
        Story ring = plain().tell(repeated(12, "fact(1, #, 1, 0, 1, 0, 3)")).tell("fact(0, 11, 0, 0, 5, 0, 3)");
        ring.tell("head(0, -2, 0, 0)", "atom(0, true, -1, 0, 0)", "atom(1, true, -2, -3, 0)", "add(-1, -2, -3)", "enter()");
        for (int place = 11; place >= 0; place--) {
            ring.due("cheapest(0, " + place + ", 0, 0)", 5 + 2 * (11 - place));
        }
        ring.tells("drop(12)", 12).due("cheapest(0, 0, 0, 0)", -1);
    }

    private static void promise21EachAsOften() {
        Story story = plain().tell("fact(0, 1, 0, 0, 10, 0, 3)", "fact(0, 2, 0, 0, 7, 0, 3)", "declare(3, 1, PLAIN, 1)");
        story.tell("head(3, 1, 0, 0)", "enter()").due("cheapest(3, 1, 0, 0)", 1);
        story.tell("head(3, 2, 0, 0)", "atom(0, true, 1, 0, 0)", "enter()").due("cheapest(3, 2, 0, 0)", 11);
        story.tell("head(3, 3, 0, 0)", "atom(0, true, 1, 0, 0)", "atom(0, true, 1, 0, 0)", "enter()").due("cheapest(3, 3, 0, 0)", 21);
        story.tell("head(3, 4, 0, 0)", "atom(0, true, 1, 0, 0)", "atom(0, true, 1, 0, 0)", "atom(0, true, 1, 0, 0)", "enter()");
        story.due("cheapest(3, 4, 0, 0)", 31).tell("head(3, 5, 0, 0)", "atom(0, true, -1, 0, 0)", "atom(0, true, -2, 0, 0)", "enter()");
        story.due("cheapest(3, 5, 0, 0)", 15).tell("head(3, 6, 0, 0)", "atom(0, true, 1, 0, 0)", "atom(0, false, 3, 0, 0)",
                "compare(SAME, 1, 1)", "add(2, 1, 1)", "enter()").due("cheapest(3, 6, 0, 0)", 11);
        story.tell("head(3, 1, 0, 0)", "atom(3, true, 6, 0, 0)", "enter()", "head(3, 6, 0, 0)", "atom(3, true, 1, 0, 0)", "enter()");
        story.due("cheapest(3, 1, 0, 0)", 1).due("cheapest(3, 6, 0, 0)", 2).tells("remove(0)", 7);
        story.due("cheapest(3, 1, 0, 0)", 12).due("cheapest(3, 6, 0, 0)", 11);
    }

    private static void promise22Bits() {
        Story story = plain().tell(repeated(24, "fact(0, #, 0, 0, 1, 0, 3)"));
        for (int fact = 0; fact < 24; fact++) {
            story.due("needed(0, " + fact + ", 0, 0)", 1 << fact);
        }
        story.due("needed(0, 24, 0, 0)", 0).tell("head(1, 1, 1, 0)", "atom(0, true, 0, 0, 0)", "atom(0, true, 23, 0, 0)",
                "atom(0, true, 12, 0, 0)", "enter()").due("needed(1, 1, 1, 0)", 1 | 1 << 23 | 1 << 12);
        story.tells("drop(0)", 23).due("needed(1, 1, 1, 0)", 0).due("needed(0, 1, 0, 0)", 2);
        story.tell("head(0, 1, 0, 0)", "enter()").due("needed(0, 1, 0, 0)", 0).due("needed(0, 2, 0, 0)", 4);
        Story lacking = plain().tell("fact(0, 1, 0, 0, 1, 0, 3)", "head(1, 1, 1, 0)", "atom(0, false, 2, 0, 0)", "enter()");
        lacking.due("needed(1, 1, 1, 0)", 0).due("needed(0, 1, 0, 0)", 1);
        for (int relation : new int[] {-1, 3, 10}) {
            story.refused("needed(" + relation + ", 1, 0, 0)", INDEX);
        }
    }

    /** Six values in each of two relations, and all pairs of them but while there is 1 in the relation 3. */
    private static Story pairs(String stop) {
        Story story = story("declare(0, 1, PLAIN, 1)", "declare(1, 1, PLAIN, 1)", "declare(2, 2, PLAIN, 2)",
                "declare(3, 1, PLAIN, 1)", "declare(4, 1, PLAIN, 1)").tell(stop);
        story.tell(repeated(6, "fact(0, #, 0, 0, 1, 0, 3)")).tell(repeated(6, "fact(1, #, 0, 0, 1, 0, 3)"));
        story.tell("head(2, -1, -2, 0)", "atom(0, true, -1, 0, 0)", "atom(1, true, -2, 0, 0)", "atom(3, false, 1, 0, 0)", "enter()");
        return story.tell("head(4, -1, 0, 0)", "atom(3, true, -1, 0, 0)", "enter()");
    }

    private static void promise22TooManyTuples() {
        Story story = pairs("fact(3, 1, 0, 0, 1, 0, 3)").due("needed(4, 1, 0, 0)", 1).due("needed(3, 1, 0, 0)", 1);
        story.tell("fact(3, 2, 0, 0, 1, 1, 3)").due("needed(4, 1, 0, 0)", 1).tell("pass()");
        story.due("needed(4, 1, 0, 0)", 0).due("needed(3, 1, 0, 0)", 0).due("needed(4, 2, 0, 0)", 1 << 13);
        story.tells("drop(1)", 13).due("needed(4, 1, 0, 0)", 1).due("needed(3, 1, 0, 0)", 1);
    }

    private static void promise22NotInTheModel() {
        Story story = plain().tell("fact(0, 1, 0, 0, 1, 1, 3)", "declare(3, 2, GREATEST, 1)", "fact(3, 1, 5, 0, 1, 0, 3)",
                "fact(3, 1, 6, 0, 1, 0, 3)", "fact(3, 1, 6, 0, 1, 2, 3)");
        story.due("needed(0, 1, 0, 0)", 0).due("needed(3, 1, 6, 0)", 1 << 2).due("needed(3, 1, 5, 0)", 0).tell("pass()");
        story.due("needed(0, 1, 0, 0)", 1).due("needed(3, 1, 6, 0)", 1 << 2).tell("pass()").due("needed(3, 1, 6, 0)", 0);
    }

    private static void promise23LiteralsUpToFive() {
        Story story = story("declare(0, 2, GREATEST, 1)", "declare(1, 1, PLAIN, 1)", "fact(1, 1, 0, 0, 1, 0, 3)");
        story.due("whyNot(0, 1, 0, 0)", -1);
        String[] literals = {"atom(1, true, -1, 0, 0)", "add(-2, -1, 3)", "compare(SAME, -2, 4)", "atom(1, false, -2, 0, 0)",
            "compare(OTHER, -1, -2)"};
        for (int held = 0; held < 5; held++) {
            story.tell("head(0, 9, " + held + ", 0)");
            for (int place = 0; place < 5; place++) {
                story.tell(place < held ? literals[place] : place == held ? "compare(SAME, 1, 2)" : literals[place - 1]);
            }
            story.tells("enter()", held).due("whyNot(0, 9, 0, 0)", 10 * held + held).due("whyNot(0, 8, 0, 0)", -1);
        }
        for (int rule = 5; rule < 11; rule++) {
            story.tell("head(0, 7, 7, 0)", "compare(SAME, 1, 2)").tells("enter()", rule);
        }
        story.tell("head(0, 9, 5, 0)").tell(literals[0], literals[1], literals[2], literals[3], literals[4]).tells("enter()", 11);
        story.due("whyNot(0, 9, 0, 0)", 115).refused("whyNot(0, 9, 5, 0)", STATE).due("whyNot(0, 7, 0, 0)", 50);
        story.tells("remove(11)", 11).due("whyNot(0, 9, 5, 0)", 44).tells("remove(4)", 10).due("whyNot(0, 9, 5, 0)", 33);
        story.tells("remove(0)", 9).tells("remove(1)", 8).tells("remove(2)", 7).tells("remove(3)", 6);
        story.due("whyNot(0, 9, 5, 0)", -1);
    }

    private static void promise23TheLowest() {
        Story story = plain().tell("fact(0, 1, 0, 0, 1, 0, 3)");
        for (int rule = 0; rule < 3; rule++) {
            story.tell("head(1, -1, -1, 0)", "atom(0, true, -1, 0, 0)", "compare(SAME, -1, 2)").tells("enter()", rule);
        }
        story.due("whyNot(1, 1, 1, 0)", 1).due("whyNot(1, 2, 2, 0)", 0).due("whyNot(1, 1, 2, 0)", -1);
        story.tells("remove(0)", 2).due("whyNot(1, 1, 1, 0)", 11).due("whyNot(1, 2, 2, 0)", 10);
        story.tells("remove(1)", 1).tells("remove(2)", 0).due("whyNot(1, 1, 1, 0)", -1);
        Story some = plain().tell("fact(1, 1, 2, 0, 1, 0, 3)", "fact(1, 1, 3, 0, 1, 0, 3)", "fact(0, 3, 0, 0, 1, 0, 3)");
        some.tell("head(2, -1, -1, -1)", "atom(1, true, -1, -2, 0)", "atom(0, true, -2, 0, 0)", "compare(LESS, -2, 3)", "enter()");
        some.due("whyNot(2, 1, 1, 1)", 2).due("whyNot(2, 3, 3, 3)", 0).due("whyNot(2, 1, 1, 2)", -1);
        some.tell("head(2, 3, 3, 3)", "compare(SAME, 1, 1)", "compare(SAME, 1, 2)", "enter()").due("whyNot(2, 3, 3, 3)", 11);
    }

    private static void promise23LastColumn() {
        for (int kind = 1; kind < 4; kind++) {
            Story story = story("declare(0, 2, " + kind + ", 1)", "declare(1, 2, PLAIN, 2)", "fact(1, 4, 6, 0, 1, 0, 3)");
            story.tell("head(0, -1, 9, 0)", "atom(1, true, -1, -2, 0)", "compare(SAME, 1, 2)").tells("enter()", 0);
            story.due("whyNot(0, 4, 8, 0)", 1).due("whyNot(0, 5, 9, 0)", 0);
            story.tell("head(0, -1, -2, 0)", "atom(1, true, -1, -2, 0)", "compare(SAME, -2, 6)", "compare(SAME, 1, 2)").tells("enter()", 1);
            story.due("whyNot(0, 4, 8, 0)", 12).due("whyNot(0, 5, 6, 0)", 0);
            story.tell("head(0, 4, 6, 0)").tells("enter()", 2).due("whyNot(0, 4, 7, 0)", 12).refused("whyNot(0, 4, 6, 0)", STATE);
            Story narrow = story("declare(0, 1, " + kind + ", 0)", "head(0, 5, 0, 0)", "compare(SAME, 1, 2)", "enter()");
            narrow.due("whyNot(0, 4, 0, 0)", 0).due("whyNot(0, 5, 0, 0)", 0);
        }
    }

    private static void promise23Refused() {
        Story story = plain().tell("fact(1, 1, 2, 0, 1, 1, 3)", "head(0, 3, 0, 0)", "enter()");
        for (int relation : new int[] {-1, 3, 10, FAR[0], FAR[1]}) {
            story.refused("whyNot(" + relation + ", 1, 2, 0)", INDEX);
        }
        story.due("whyNot(1, 1, 2, 0)", -1).refused("whyNot(0, 3, 0, 0)", STATE).tell("pass()");
        story.refused("whyNot(1, 1, 2, 0)", STATE).due("whyNot(1, 1, 3, 0)", -1).refused("whyNot(1, 1, 2, 1)", ARGUMENT);
    }

    // ---- constraints

    private static void promise24Count() {
        Story story = story(repeated(10, "declare(#, 2, PLAIN, 1)")).due("broken()", 0);
        for (int relation = 0; relation < 10; relation++) {
            story.tell("fact(" + relation + ", 1, 1, 0, 1, 0, 3)").due("broken()", relation);
            story.tell("fact(" + relation + ", 1, 2, 0, 1, 0, 3)").due("broken()", relation + 1);
        }
        for (int denial = 0; denial < 6; denial++) {
            story.tell("atom(" + denial + ", true, 1, 3, 0)").tells("deny()", denial).due("broken()", 10);
        }
        story.tell("fact(5, 1, 3, 0, 1, 0, 3)").due("broken()", 11).tell("head(0, 1, 3, 0)", "enter()").due("broken()", 12);
        story.tells("drop(20)", 20).tells("drop(11)", 19).due("broken()", 10);
    }

    private static void promise25OneOrTwo() {
        Story story = plain().due("repair()", 0).tell(repeated(24, "fact(0, #, 0, 0, 1, 0, 3)")).due("repair()", 0);
        story.tell("atom(0, true, 23, 0, 0)", "deny()").due("repair()", 1 << 23);
        story.tell("atom(0, true, 22, 0, 0)", "deny()").due("repair()", 3 << 22);
        story.tell("atom(0, true, 0, 0, 0)", "deny()").due("repair()", -1).due("broken()", 3);
        story.tells("drop(22)", 23).due("repair()", 1 | 1 << 23).tells("drop(23)", 22).due("repair()", 1);
        story.tells("drop(0)", 21).due("repair()", 0).due("broken()", 0);
        Story fixed = plain().tell("head(0, 1, 0, 0)", "enter()", "fact(0, 2, 0, 0, 1, 0, 3)", "atom(0, true, 1, 0, 0)", "deny()");
        fixed.due("repair()", -1).tells("remove(0)", 0).due("repair()", 0);
        Story hours = plain().tell("fact(0, 1, 0, 0, 1, 1, 1)", "atom(0, true, -1, 0, 0)", "deny()").due("repair()", 0);
        hours.tell("pass()").due("repair()", 1).tell("pass()").due("repair()", 0);
    }

    private static void promise25LeastNumber() {
        Story few = plain().tell(repeated(5, "fact(0, #, 0, 0, 1, 0, 3)")).tell("atom(0, true, 0, 0, 0)", "atom(0, true, 4, 0, 0)",
                "deny()").due("repair()", 1).tell("atom(0, true, 1, 0, 0)", "atom(0, true, 4, 0, 0)", "deny()");
        few.due("repair()", 1 << 4).tell("atom(0, true, 2, 0, 0)", "atom(0, true, 3, 0, 0)", "deny()").due("repair()", 1 << 2 | 1 << 4);
        few.tells("drop(4)", 4).due("repair()", 1 << 2).tell("fact(0, 4, 0, 0, 1, 0, 3)").due("repair()", 1 << 2 | 1 << 5);
        Story pairs = plain().tell(repeated(4, "fact(0, #, 0, 0, 1, 0, 3)")).tell("atom(0, true, 0, 0, 0)", "atom(0, true, 3, 0, 0)", "deny()");
        pairs.tell("atom(0, true, 1, 0, 0)", "atom(0, true, 2, 0, 0)", "deny()").due("repair()", 3);
        pairs.tells("drop(0)", 3).due("repair()", 1 << 1).tells("drop(1)", 2).due("repair()", 0);
        Story same = plain().tell("fact(0, 1, 0, 0, 1, 0, 3)", "fact(0, 1, 0, 0, 9, 0, 3)", "atom(0, true, 1, 0, 0)", "deny()");
        same.due("repair()", 3).tell("fact(0, 1, 0, 0, 1, 3, 3)").due("repair()", 3).tell("fact(0, 1, 0, 0, 1, 0, 0)").due("repair()", -1);
    }

    private static void promise25TooManyTuples() {
        Story story = pairs("fact(3, 1, 0, 0, 1, 0, 3)").tell("atom(3, true, 1, 0, 0)", "deny()").due("repair()", 1);
        story.tell("fact(3, 2, 0, 0, 1, 0, 0)").due("repair()", 3).tells("drop(13)", 13).due("repair()", 1);
        story.tell("fact(3, 2, 0, 0, 1, 1, 1)").due("repair()", 1).tell("pass()").due("repair()", 3);
        story.tell("pass()").due("repair()", 1).tells("drop(1)", 13).due("repair()", 1);
    }

    // ---- goals and plans

    private static void promise26UpTo400() {
        for (int least = 14; least <= 19; least++) {
            Story story = story("declare(0, 2, PLAIN, 2)", "declare(1, 1, PLAIN, 1)", "declare(2, 1, PLAIN, 1)",
                    "declare(3, 3, PLAIN, 3)", "declare(4, 1, PLAIN, 1)").tell(repeated(20, "fact(1, #, 0, 0, 1, 0, 3)"));
            story.tell("head(2, -1, 0, 0)", "atom(1, true, -1, 0, 0)", "compare(LESS, -1, 19)", "enter()").due("size(2)", 19);
            story.tell("head(0, -1, -2, 0)", "atom(1, true, -1, 0, 0)", "atom(2, true, -2, 0, 0)", "atom(3, true, -1, -2, -3)", "enter()");
            story.due("goals(0, FREE, FREE, 0)", 3 + 380);
            story.tell("head(0, -1, -1, 0)", "atom(1, true, -1, 0, 0)", "compare(LESS, -1, " + least + ")", "atom(4, false, -1, 0, 0)",
                    "compare(SAME, 1, 2)", "enter()").due("goals(0, FREE, FREE, 0)", Math.min(400, 383 + least));
            story.due("goals(0, 1, FREE, 0)", 24).due("goals(0, 1, 2, 0)", 5).due("goals(1, FREE, 0, 0)", 1);
        }
    }

    private static void promise26Refused() {
        Story story = plain().tell("fact(0, 1, 0, 0, 1, 0, 3)");
        for (int relation : new int[] {-1, 3, 10, FAR[0], FAR[1]}) {
            story.refused("goals(" + relation + ", FREE, 0, 0)", INDEX);
        }
        for (int value : new int[] {-1, -8, -10, 128, FAR[0], FAR[1]}) {
            story.refused("goals(0, " + value + ", 0, 0)", ARGUMENT).refused("goals(1, 1, " + value + ", 0)", ARGUMENT);
            story.refused("goals(2, FREE, FREE, " + value + ")", ARGUMENT);
        }
        story.due("goals(0, 0, 0, 0)", 1).due("goals(0, 127, 0, 0)", 1).due("goals(0, FREE, 0, 0)", 1);
        story.refused("goals(0, 1, FREE, 0)", ARGUMENT).refused("goals(0, 1, 0, FREE)", ARGUMENT);
        story.refused("goals(1, FREE, FREE, FREE)", ARGUMENT).refused("goals(1, FREE, FREE, 1)", ARGUMENT);
        Story itself = plain().tell("head(0, -1, 0, 0)", "atom(0, true, -1, 0, 0)", "enter()").due("goals(0, 5, 0, 0)", 1);
        itself.tell("head(0, 5, 0, 0)", "atom(0, true, -1, 0, 0)", "enter()").due("goals(0, 5, 0, 0)", 2).due("goals(0, FREE, 0, 0)", 1);
    }

    private static void promise27Place() {
        Story story = plain().refused("order(0, 0)", INDEX).tell("head(0, 1, 0, 0)", "enter()").due("order(0, 0)", -1);
        story.tell("head(0, -1, 0, 0)", "compare(SAME, 1, 1)", "atom(0, true, -1, 0, 0)", "atom(1, false, -1, -1, 0)",
                "atom(0, true, -2, 0, 0)", "atom(1, true, -1, -2, 0)").tells("enter()", 1);
        story.due("order(1, 0)", 1).due("order(1, 1)", 4).due("order(1, 2)", 3).due("order(1, 3)", -1).due("order(1, 4)", -1);
        story.due("order(1, 5)", -1).due("order(1, " + FAR[1] + ")", -1);
        for (int place : new int[] {-1, FAR[0]}) {
            story.refused("order(1, " + place + ")", INDEX).refused("order(0, " + place + ")", INDEX);
        }
        for (int rule : new int[] {-1, 2, 11, 12, FAR[0], FAR[1]}) {
            story.refused("order(" + rule + ", 0)", INDEX);
        }
        story.tells("remove(1)", 1).due("order(1, 0)", 1).due("order(1, 2)", 3).due("order(1, 3)", -1);
        story.refused("order(1, -1)", INDEX).refused("order(2, 0)", INDEX);
        for (int rule = 2; rule < 12; rule++) {
            story.tell("head(2, 1, 1, 1)", "atom(0, true, " + rule + ", 0, 0)").tells("enter()", rule);
            story.due("order(" + rule + ", 0)", 0).due("order(" + rule + ", 1)", -1);
        }
        story.refused("order(12, 0)", INDEX);
    }

    private static void promise28Rule() {
        Story story = plain().refused("joins(0)", INDEX).tell("head(0, 1, 0, 0)", "enter()").due("joins(0)", 0);
        for (int rule : new int[] {-1, 1, 11, 12, FAR[0], FAR[1]}) {
            story.refused("joins(" + rule + ")", INDEX);
        }
        story.tells("remove(0)", 0).due("joins(0)", 0).refused("joins(1)", INDEX);
        story.tell("compare(SAME, 1, 1)", "deny()").refused("joins(1)", INDEX);
    }

    private static void promise28Count() {
        for (int atoms = 0; atoms <= 3; atoms++) {
            Story story = story("declare(0, 2, PLAIN, 1)", "declare(1, 1, PLAIN, 1)", "head(1, 1, 0, 0)");
            story.tell(repeated(atoms, "atom(0, true, #, 5, 0)")).tell("atom(0, false, 9, 5, 0)", "compare(SAME, 1, 1)").tells("enter()", 0);
            story.due("joins(0)", atoms).tell("head(1, 1, 0, 0)").tell(repeated(atoms, "atom(0, true, 5, #, 0)")).tells("enter()", 1);
            story.due("joins(1)", Math.min(1, atoms)).tells("remove(0)", 1).due("joins(0)", atoms);
        }
    }

    private static void promise29UpToThree() {
        String[] searches = {"-1, -2, -3", "1, -2, -3", "-1, 1, -3", "1, 1, -3", "-1, -2, 1", "1, -2, 1", "-1, 1, 1", "1, 1, 1"};
        int[] most = {0, 1, 1, 1, 1, 1, 1, 1};
        for (int first = 0; first < 8; first++) {
            for (int second = 0; second < 8; second++) {
                Story story = plain().tell("head(0, 1, 0, 0)", "atom(2, true, " + searches[first] + ")", "enter()");
                story.due("indexes(2)", most[first]).tell("head(0, 1, 0, 0)", "atom(2, true, " + searches[second] + ")", "enter()");
                boolean chain = (first & second) == first || (first & second) == second;
                story.due("indexes(2)", chain ? Math.max(most[first], most[second]) : 2).due("indexes(0)", 0);
                story.tells("remove(0)", 1).due("indexes(2)", most[second]).tells("remove(1)", 0).due("indexes(2)", 0);
            }
        }
        Story all = plain();
        int[] due = {0, 1, 2, 2, 3, 3, 3, 3};
        for (int search = 0; search < 8; search++) {
            all.tell("head(0, 1, 0, 0)", "atom(2, true, " + searches[search] + ")", "enter()").due("indexes(2)", due[search]);
        }
        for (int relation : new int[] {-1, 3, 10, FAR[0], FAR[1]}) {
            all.refused("indexes(" + relation + ")", INDEX);
        }
        all.due("indexes(0)", 0).due("indexes(1)", 0);
    }
}
