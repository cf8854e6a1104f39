/** Promises 26 to 29: goals and plans. */
public final class PlanTest {
    private static final int PLAIN = Datalogmill.PLAIN;
    private static final int LEAST = Datalogmill.LEAST;
    private static final int FREE = Datalogmill.FREE;
    private static final Check CHECK = new Check("PlanTest");

    private PlanTest() {
    }

    public static void main(String[] args) {
        promise26Goals();
        promise26GoalsOfKinds();
        promise26GoalsAtMost();
        promise26GoalsOfGoals();
        promise27Order();
        promise28Joins();
        promise29Indexes();
        promise29IndexesOfAllOrders();
        CHECK.end();
    }

    /** Relations 0 to 2 with as many columns as their number and 1, and a relation 3 of the kind LEAST. */
    private static Datalogmill relations() {
        Datalogmill mill = new Datalogmill();
        mill.declare(0, 1, PLAIN, 1);
        mill.declare(1, 2, PLAIN, 1);
        mill.declare(2, 3, PLAIN, 2);
        mill.declare(3, 2, LEAST, 1);
        return mill;
    }

    private static void promise26Goals() {
        Datalogmill mill = relations();
        CHECK.index("no such relation", () -> mill.goals(4, 200, 0, 0));
        CHECK.argument("value 128", () -> mill.goals(1, 1, 128, 0));
        CHECK.argument("value -1", () -> mill.goals(1, -1, 1, 0));
        CHECK.argument("value -8", () -> mill.goals(1, -8, 1, 0));
        CHECK.argument("FREE where there is no column", () -> mill.goals(0, 1, FREE, 0));
        CHECK.argument("a column too many", () -> mill.goals(1, 1, 1, 1));
        CHECK.due("no rules", mill.goals(1, FREE, 3, 0), 1);
        mill.fact(1, 1, 2, 0, 1, 0, 3);
        mill.fact(1, 1, 3, 0, 1, 0, 3);
        mill.fact(0, 3, 0, 0, 1, 0, 3);
        mill.head(2, -1, -2, 5);
        mill.atom(1, true, -1, -2, 0);
        mill.atom(0, false, -2, 0, 0);
        mill.compare(1, -1, 1);
        mill.atom(0, true, 77, 0, 0);
        mill.enter();
        CHECK.due("itself, the first atom, and two that are not to hold", mill.goals(2, 1, FREE, 5), 4);
        CHECK.due("a value of the head", mill.goals(2, 1, FREE, 4), 1);
        CHECK.due("the value 0", mill.goals(2, 1, FREE, 0), 1);
        CHECK.due("one assignment", mill.goals(2, FREE, 3, FREE), 3);
        CHECK.due("none", mill.goals(2, 3, 3, FREE), 2);
        mill.head(1, -1, -1, 0);
        mill.atom(0, true, -1, 0, 0);
        mill.atom(2, true, -1, -1, -2);
        mill.atom(1, true, 8, 8, 0);
        mill.enter();
        CHECK.due("a variable twice", mill.goals(1, 3, FREE, 0), 4);
        CHECK.due("a variable that cannot be", mill.goals(1, 3, 4, 0), 1);
        CHECK.due("all free", mill.goals(1, FREE, FREE, 0), 5);
        mill.remove(1);
        CHECK.due("a removed rule", mill.goals(1, FREE, FREE, 0), 1);
    }

    private static void promise26GoalsOfKinds() {
        Datalogmill mill = relations();
        mill.head(3, -1, 4, 0);
        mill.atom(1, true, -1, 9, 0);
        mill.enter();
        CHECK.due("the last column is not asked", mill.goals(3, 1, 5, 0), 2);
        mill.head(3, 2, -1, 0);
        mill.atom(0, true, -1, 0, 0);
        mill.enter();
        CHECK.due("and not bound", mill.goals(3, 2, 5, 0), 3);
        mill.head(2, -1, -1, -1);
        mill.atom(3, true, 2, 7, 0);
        mill.atom(3, true, 2, -1, 0);
        mill.enter();
        CHECK.due("the last column counts as FREE", mill.goals(2, 6, 6, 6), 4);
        mill.head(3, -1, -1, 0);
        mill.atom(1, true, -1, -1, 0);
        mill.enter();
        CHECK.due("the last column has the key's value", mill.goals(3, 1, 5, 0), 3);
    }

    private static void promise26GoalsAtMost() {
        Datalogmill mill = relations();
        mill.head(1, -1, -2, 0);
        mill.atom(0, true, -1, 0, 0);
        mill.atom(0, true, -2, 0, 0);
        mill.atom(2, true, -1, -2, -3);
        mill.enter();
        for (int value = 0; value < 19; value++) {
            mill.fact(0, value, 0, 0, 1, 0, 3);
        }
        CHECK.due("19 times 19, and two", mill.goals(1, FREE, FREE, 0), 363);
        CHECK.due("one more", mill.goals(1, 5, FREE, 0), 22);
        mill.fact(0, 19, 0, 0, 1, 0, 3);
        CHECK.due("402", mill.goals(1, FREE, FREE, 0), 400);
        CHECK.due("again", mill.goals(1, 5, FREE, 0), 23);
    }

    /** Goals that come from goals, of pairs of places in a ring. */
    private static void promise26GoalsOfGoals() {
        Datalogmill mill = relations();
        mill.declare(4, 2, PLAIN, 2);
        mill.head(4, -1, -2, 0);
        mill.atom(1, true, -1, -3, 0);
        mill.atom(1, true, -2, -4, 0);
        mill.atom(4, true, -3, -2, 0);
        mill.enter();
        mill.head(4, -1, -2, 0);
        mill.atom(1, true, -2, -3, 0);
        mill.atom(1, true, -1, -4, 0);
        mill.atom(4, true, -1, -3, 0);
        mill.enter();
        for (int place = 0; place < 19; place++) {
            mill.fact(1, place, (place + 1) % 19, 0, 1, 0, 3);
        }
        CHECK.due("pairs and places", mill.goals(4, 3, 5, 0), 380);
        mill.fact(1, 18, 19, 0, 1, 0, 3);
        mill.fact(1, 19, 0, 0, 1, 0, 3);
        CHECK.due("more", mill.goals(4, 3, 5, 0), 400);
    }

    private static void order(Datalogmill mill, int rule, int... places) {
        for (int i = 0; i <= places.length; i++) {
            CHECK.due("order(" + rule + ", " + i + ")", mill.order(rule, i),
                    i < places.length ? places[i] : Datalogmill.NONE);
        }
    }

    private static void promise27Order() {
        Datalogmill mill = relations();
        CHECK.index("no such rule", () -> mill.order(0, 0));
        mill.head(0, 1, 0, 0);
        mill.enter();
        mill.head(0, -1, 0, 0);
        mill.atom(1, true, -1, -2, 0);
        mill.compare(0, -2, 2);
        mill.atom(1, true, -3, -4, 0);
        mill.atom(1, true, 5, -3, 0);
        mill.enter();
        CHECK.index("rule -1", () -> mill.order(-1, 0));
        CHECK.index("place -1", () -> mill.order(1, -1));
        CHECK.index("rule 2", () -> mill.order(2, 0));
        order(mill, 0);
        order(mill, 1, 3, 2, 0);
        CHECK.due("a far place", mill.order(1, Integer.MAX_VALUE), Datalogmill.NONE);
        mill.head(0, -1, 0, 0);
        mill.add(-1, 1, 2);
        mill.atom(1, true, -3, -4, 0);
        mill.atom(1, true, -1, -3, 0);
        mill.atom(1, false, 1, 1, 0);
        mill.enter();
        order(mill, 2, 1, 2);
        mill.head(0, -1, 0, 0);
        mill.atom(1, true, -1, -2, 0);
        mill.atom(3, true, -2, 9, 0);
        mill.atom(2, true, -2, -2, -3);
        mill.enter();
        order(mill, 3, 1, 2, 0);
        mill.remove(3);
        order(mill, 3, 1, 2, 0);
    }

    private static void promise28Joins() {
        Datalogmill mill = relations();
        mill.declare(4, 3, PLAIN, 3);
        CHECK.index("no such rule", () -> mill.joins(0));
        mill.head(0, -1, 0, 0);
        mill.atom(2, true, -1, 2, -3);
        mill.atom(2, true, -1, 2, -4);
        mill.atom(2, true, -1, 2, 9);
        mill.atom(2, false, -1, 2, 9);
        mill.enter();
        CHECK.index("rule -1", () -> mill.joins(-1));
        CHECK.index("rule 1", () -> mill.joins(1));
        CHECK.due("two needless ones", mill.joins(0), 1);
        mill.head(0, -1, 0, 0);
        mill.atom(2, true, -1, -2, -3);
        mill.atom(2, true, -2, -1, -3);
        mill.atom(1, true, -1, -2, 0);
        mill.enter();
        CHECK.due("other keys, another relation", mill.joins(1), 3);
        mill.head(0, -1, 0, 0);
        mill.atom(4, true, -1, -2, -3);
        mill.atom(4, true, -1, -2, -3);
        mill.enter();
        CHECK.due("a key of all columns", mill.joins(2), 2);
        mill.head(3, -1, -2, 0);
        mill.atom(3, true, -1, -2, 0);
        mill.atom(3, true, -1, -3, 0);
        mill.enter();
        CHECK.due("not PLAIN", mill.joins(3), 2);
        mill.head(0, 9, 0, 0);
        mill.enter();
        CHECK.due("no atoms", mill.joins(4), 0);
        mill.head(0, -1, 0, 0);
        mill.atom(1, true, -1, 1, 0);
        mill.atom(1, false, 2, 2, 0);
        mill.compare(0, 1, 1);
        mill.add(-2, 1, 1);
        mill.enter();
        CHECK.due("one atom that is to hold", mill.joins(5), 1);
        mill.remove(0);
        CHECK.due("a removed rule", mill.joins(0), 1);
    }

    /** Enters a rule whose one atom of the relation 4 is searched by the columns with values. */
    private static int search(Datalogmill mill, int first, int second, int third) {
        mill.head(0, 1, 0, 0);
        mill.atom(4, true, first, second, third);
        return mill.enter();
    }

    private static void promise29Indexes() {
        Datalogmill mill = relations();
        mill.declare(4, 3, PLAIN, 3);
        CHECK.index("no such relation", () -> mill.indexes(5));
        CHECK.due("no rules", mill.indexes(4), 0);
        search(mill, -1, -2, -3);
        CHECK.due("a search by no columns", mill.indexes(4), 0);
        search(mill, 1, -2, -3);
        CHECK.due("first", mill.indexes(4), 1);
        search(mill, 1, -2, 2);
        search(mill, 1, 2, 3);
        CHECK.due("first, then third, then second", mill.indexes(4), 1);
        search(mill, -1, 2, 2);
        CHECK.due("second and third", mill.indexes(4), 2);
        search(mill, -1, 2, -3);
        CHECK.due("second", mill.indexes(4), 2);
        int last = search(mill, -1, -2, 2);
        CHECK.due("third", mill.indexes(4), 3);
        mill.remove(last);
        CHECK.due("a removed rule", mill.indexes(4), 2);
        CHECK.due("another relation", mill.indexes(1), 0);
        mill.atom(1, true, 1, -1, 0);
        mill.deny();
        CHECK.due("a denial", mill.indexes(1), 0);
        mill.head(2, -1, -2, -3);
        mill.atom(1, true, -1, -2, 0);
        mill.atom(1, true, -3, -2, 0);
        mill.atom(3, true, -3, -2, 0);
        mill.enter();
        CHECK.due("by the second column", mill.indexes(1), 1);
        CHECK.due("not PLAIN, by both columns", mill.indexes(3), 1);
        mill.head(2, -1, -1, -1);
        mill.atom(1, true, 3, -1, 0);
        mill.atom(1, true, 3, -2, 0);
        mill.enter();
        CHECK.due("by either column", mill.indexes(1), 2);
    }

    /** Searches by one, two and three columns, in each order, and then by each other column alone. */
    private static void promise29IndexesOfAllOrders() {
        for (int first = 0; first < 3; first++) {
            for (int second = 0; second < 3; second++) {
                if (first != second) {
                    Datalogmill mill = relations();
                    mill.declare(4, 3, PLAIN, 3);
                    search(mill, 1, 1, 1);
                    CHECK.due("all columns", mill.indexes(4), 1);
                    int[] terms = {-1, -2, -3};
                    terms[first] = 1;
                    search(mill, terms[0], terms[1], terms[2]);
                    terms[second] = 1;
                    search(mill, terms[0], terms[1], terms[2]);
                    CHECK.due("from " + first + " to " + second, mill.indexes(4), 1);
                    int[] other = {-1, -2, -3};
                    other[second] = 1;
                    search(mill, other[0], other[1], other[2]);
                    CHECK.due("and " + second, mill.indexes(4), 2);
                    search(mill, first + second == 2 ? -1 : 1, first + second == 1 ? -1 : 1, first + second == 3 ? -1 : 1);
                    CHECK.due("two pairs", mill.indexes(4), 2);
                }
            }
        }
    }
}
