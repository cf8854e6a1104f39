import java.util.ArrayList;
import java.util.List;
import java.util.Map;
import java.util.Random;
import java.util.TreeMap;

/**
 * Runs of calls by chance, from fixed seeds, on a Datalogmill and on the oracle; all answers have to
 * be the same. Arguments: how many runs, the first seed, and a third one to see how often there was
 * what answer.
 */
public final class RandomRuns {
    /** How often each call had each answer (20 for more), to see what the runs come to. */
    private static final Map<String, Integer> SEEN = new TreeMap<>();
    private static final String[] QUESTIONS = {"holds", "holdsAt", "holdsAnew", "size", "at", "stratum", "ways",
        "cheapest", "needed", "whyNot", "broken", "repair", "goals", "order", "joins", "indexes"};

    private final Random chance;
    private final Datalogmill mill = new Datalogmill();
    private final Oracle oracle = new Oracle();
    private final StringBuilder told = new StringBuilder();
    private final int[] columns = new int[10];
    private final int[] kinds = new int[10];
    private final List<Integer> relations = new ArrayList<>();
    private final int values;
    private final boolean heavy;
    private final List<Integer> bound = new ArrayList<>();
    private int highest;
    private int calls;
    private int wrong;

    private RandomRuns(long seed, boolean isHeavy) {
        chance = new Random(seed);
        values = 2 + chance.nextInt(4);
        heavy = isHeavy;
    }

    public static void main(String[] args) {
        int runs = args.length > 0 ? Integer.parseInt(args[0]) : 300;
        long start = args.length > 1 ? Long.parseLong(args[1]) : 0;
        int wrong = 0;
        int calls = 0;
        for (int run = 0; run < runs && wrong < 5; run++) {
            RandomRuns it = new RandomRuns(start + run, run % 3 == 0);
            it.play();
            calls += it.calls;
            if (it.wrong > 0) {
                wrong++;
                System.out.println("seed " + (start + run) + ":\n" + it.told);
            }
        }
        if (args.length > 2) {
            SEEN.forEach((call, times) -> System.out.println(call + ": " + times));
        }
        System.out.println(runs + " runs, " + calls + " calls, " + wrong + " wrong runs");
        if (wrong > 0) {
            System.exit(1);
        }
    }

    private interface Call {
        long on(boolean oracle);
    }

    private long ask(String call, Call what) {
        String[] answers = new String[2];
        long answer = Long.MIN_VALUE;
        for (int side = 0; side < 2; side++) {
            try {
                long got = what.on(side == 1);
                answers[side] = String.valueOf(got);
                answer = got;
            } catch (IndexOutOfBoundsException | IllegalArgumentException | IllegalStateException e) {
                answers[side] = e.getClass().getSimpleName();
            }
        }
        calls++;
        String name = call.substring(0, call.indexOf('('));
        String kind = answer == Long.MIN_VALUE ? answers[0] : name.equals("at") ? "" : "" + Math.min(answer, 20);
        SEEN.merge(name + " " + kind, 1, Integer::sum);
        told.append(call).append(" = ").append(answers[0]).append('\n');
        if (!answers[0].equals(answers[1])) {
            wrong++;
            told.append("    due is ").append(answers[1]).append('\n');
        }
        return answer;
    }

    private void play() {
        int count = 2 + chance.nextInt(6);
        for (int i = 0; i < count; i++) {
            declare(chance.nextInt(10));
        }
        int facts = 2 + chance.nextInt(heavy ? 22 : 8);
        for (int i = 0; i < facts; i++) {
            fact();
        }
        for (int i = 0; i < 2 + chance.nextInt(5); i++) {
            rule();
        }
        for (int i = 0; i < 2 && chance.nextBoolean(); i++) {
            denial();
        }
        int most = heavy ? 60 : 140;
        for (int i = 0; i < most && wrong == 0; i++) {
            step();
        }
    }

    private void step() {
        int what = chance.nextInt(100);
        if (what < 10) {
            fact();
        } else if (what < 14) {
            int fact = chance.nextInt(14) - 1;
            ask("drop(" + fact + ")", o -> o ? oracle.drop(fact) : mill.drop(fact));
        } else if (what < 15) {
            ask("pass()", o -> o ? oracle.pass() : mill.pass());
        } else if (what < 24) {
            rule();
        } else if (what < 27) {
            int rule = chance.nextInt(12) - 1;
            ask("remove(" + rule + ")", o -> o ? oracle.remove(rule) : mill.remove(rule));
        } else if (what < 29) {
            denial();
        } else if (what < 30) {
            declare(chance.nextInt(12) - 1);
        } else {
            question(QUESTIONS[chance.nextInt(QUESTIONS.length)]);
        }
    }

    private void declare(int relation) {
        int its = chance.nextInt(20) == 0 ? chance.nextInt(6) - 1 : 1 + chance.nextInt(3);
        int kind = chance.nextInt(20) == 0 ? chance.nextInt(6) - 1 : chance.nextInt(2) * chance.nextInt(4);
        int key = chance.nextInt(20) == 0 ? chance.nextInt(5) - 1
                : kind == 0 ? Math.max(1, its - chance.nextInt(5) / 3) : its - 1;
        long done = ask("declare(" + relation + ", " + its + ", " + kind + ", " + key + ")", o -> {
            if (o) {
                oracle.declare(relation, its, kind, key);
            } else {
                mill.declare(relation, its, kind, key);
            }
            return 0;
        });
        if (done == 0) {
            columns[relation] = its;
            kinds[relation] = kind;
            relations.add(relation);
        }
    }

    private int relation() {
        return relations.isEmpty() || chance.nextInt(60) == 0 ? chance.nextInt(12) - 1
                : relations.get(chance.nextInt(relations.size()));
    }

    private int columnsOf(int relation) {
        return relation >= 0 && relation < 10 ? columns[relation] : 2;
    }

    private int value() {
        int what = chance.nextInt(300);
        return what == 0 ? chance.nextInt(140) - 10 : what < 6 ? 120 + chance.nextInt(8) : chance.nextInt(values);
    }

    private int[] row(int relation) {
        int[] row = new int[3];
        for (int i = 0; i < 3; i++) {
            row[i] = i < columnsOf(relation) ? value() : chance.nextInt(200) == 0 ? 1 : 0;
        }
        return row;
    }

    private void fact() {
        int relation = relation();
        int[] row = row(relation);
        int cost = chance.nextInt(50) == 0 ? chance.nextInt(103) - 1 : 1 + chance.nextInt(9);
        int from = chance.nextInt(3) * chance.nextInt(2) - (chance.nextInt(80) == 0 ? 1 : 0);
        int to = chance.nextInt(3) > 0 ? 3 : from + chance.nextInt(4) - (chance.nextInt(40) == 0 ? 1 : 0);
        ask("fact(" + relation + ", " + row[0] + ", " + row[1] + ", " + row[2] + ", " + cost + ", " + from + ", " + to
                + ")", o -> o ? oracle.fact(relation, row[0], row[1], row[2], cost, from, to)
                : mill.fact(relation, row[0], row[1], row[2], cost, from, to));
    }

    private int term(int variables) {
        int what = chance.nextInt(30);
        return what == 0 ? value() : what < 4 ? chance.nextInt(values) : -1 - chance.nextInt(variables);
    }

    /** A term that is bound already, mostly. */
    private int boundTerm() {
        return bound.isEmpty() || chance.nextInt(12) == 0 ? term(4) : bound.get(chance.nextInt(bound.size()));
    }

    private int[] boundTerms(int relation) {
        int[] terms = new int[3];
        for (int i = 0; i < 3; i++) {
            terms[i] = i < columnsOf(relation) ? boundTerm() : chance.nextInt(300) == 0 ? -1 : 0;
        }
        return terms;
    }

    private void atom(int relation, boolean holds, int[] t) {
        highest = Math.max(highest, relations.indexOf(relation));
        for (int i = 0; i < columnsOf(relation) && holds; i++) {
            if (t[i] < 0 && !bound.contains(t[i])) {
                bound.add(t[i]);
            }
        }
        ask("atom(" + relation + ", " + holds + ", " + t[0] + ", " + t[1] + ", " + t[2] + ")",
                o -> o ? oracle.atom(relation, holds, t[0], t[1], t[2]) : mill.atom(relation, holds, t[0], t[1], t[2]));
    }

    private void head(int relation, int[] t) {
        ask("head(" + relation + ", " + t[0] + ", " + t[1] + ", " + t[2] + ")", o -> {
            if (o) {
                oracle.head(relation, t[0], t[1], t[2]);
            } else {
                mill.head(relation, t[0], t[1], t[2]);
            }
            return 0;
        });
    }

    private int[] terms(int relation, int variables) {
        int[] terms = new int[3];
        for (int i = 0; i < 3; i++) {
            terms[i] = i < columnsOf(relation) ? term(variables) : chance.nextInt(300) == 0 ? -1 : 0;
        }
        return terms;
    }

    private void rule() {
        if (chance.nextInt(4) == 0) {
            growing();
        } else {
            body();
            if (chance.nextInt(30) > 0) {
                int relation = headRelation();
                head(relation, boundTerms(relation));
            }
        }
        long done = ask("enter()", o -> o ? oracle.enter() : mill.enter());
        if (done == Long.MIN_VALUE && chance.nextInt(10) > 0) {
            ask("clear()", o -> o ? oracle.clear() : mill.clear());
        }
    }

    /** Mostly a relation that was declared behind those of the body, so that there are strata. */
    private int headRelation() {
        int from = chance.nextInt(5) == 0 ? 0 : Math.min(highest + chance.nextInt(2), relations.size() - 1);
        return relations.isEmpty() ? relation() : relations.get(from + chance.nextInt(relations.size() - from));
    }

    private void denial() {
        body();
        if (chance.nextInt(5) == 0) {
            int relation = relation();
            head(relation, terms(relation, 3));
        }
        long done = ask("deny()", o -> o ? oracle.deny() : mill.deny());
        if (done == Long.MIN_VALUE) {
            ask("clear()", o -> o ? oracle.clear() : mill.clear());
        }
    }

    private void body() {
        bound.clear();
        highest = 0;
        int variables = 1 + chance.nextInt(4);
        int holding = chance.nextInt(12) == 0 ? 0 : 1 + chance.nextInt(heavy ? 2 : 3);
        for (int i = 0; i < holding; i++) {
            int relation = relation();
            atom(relation, true, terms(relation, variables));
        }
        int others = chance.nextInt(3) * chance.nextInt(2);
        for (int i = 0; i < others; i++) {
            int what = chance.nextInt(4);
            if (what == 0) {
                int relation = relation();
                atom(relation, false, boundTerms(relation));
            } else if (what == 1) {
                int how = chance.nextInt(30) == 0 ? 4 : chance.nextInt(4);
                int a = boundTerm();
                int b = chance.nextInt(3) == 0 ? value() : boundTerm();
                ask("compare(" + how + ", " + a + ", " + b + ")", o -> o ? oracle.compare(how, a, b) : mill.compare(how, a, b));
            } else if (what == 2) {
                int a = chance.nextInt(4) == 0 ? term(variables) : -1 - variables;
                add(a, boundTerm(), chance.nextBoolean() ? boundTerm() : chance.nextInt(3));
                bound.add(a);
            } else {
                int relation = relation();
                atom(relation, true, terms(relation, variables));
            }
        }
    }

    private void add(int a, int b, int c) {
        ask("add(" + a + ", " + b + ", " + c + ")", o -> o ? oracle.add(a, b, c) : mill.add(a, b, c));
    }

    /** A recursive rule of a relation that is not PLAIN, as of paths in a graph, if there is such a relation. */
    private void growing() {
        int target = -1;
        for (int relation : relations) {
            if (kinds[relation] != 0 && (target < 0 || chance.nextBoolean())) {
                target = relation;
            }
        }
        if (target < 0) {
            return;
        }
        int last = columns[target] - 1;
        int[] from = {-1, -2, -2};
        int[] into = {-3, -2, -2};
        for (int i = 0; i < 3; i++) {
            from[i] = i == last ? -4 : i > last ? 0 : from[i];
            into[i] = i == last ? chance.nextInt(3) == 0 ? -4 : -5 : i > last ? 0 : into[i];
        }
        int edge = relation();
        int[] edgeTerms = {-1, -3, -2};
        for (int i = 0; i < 3; i++) {
            edgeTerms[i] = i < columnsOf(edge) ? edgeTerms[i] : 0;
        }
        if (chance.nextBoolean()) {
            atom(target, true, from);
            atom(edge, true, edgeTerms);
        } else {
            atom(edge, true, edgeTerms);
            atom(target, true, from);
        }
        int more = chance.nextInt(5) == 0 ? -2 : chance.nextInt(3);
        if (chance.nextBoolean()) {
            add(-5, -4, more);
        } else {
            add(-5, more, -4);
        }
        head(target, into);
    }

    private int[] tuple(int relation) {
        if (chance.nextInt(5) > 0) {
            try {
                int size = mill.size(relation);
                if (size > 0) {
                    int code = mill.at(relation, chance.nextInt(size));
                    return new int[] {code >> 14, code >> 7 & 127, code & 127};
                }
            } catch (IndexOutOfBoundsException e) {
                return row(relation);
            }
        }
        return row(relation);
    }

    private void question(String name) {
        int relation = relation();
        int[] t = tuple(relation);
        if (name.equals("whyNot") && chance.nextInt(4) > 0) {
            t = row(relation);
        }
        int a = t[0];
        int b = t[1];
        int c = t[2];
        int hour = chance.nextInt(20) == 0 ? chance.nextInt(8) - 2 : chance.nextInt(4);
        int number = chance.nextInt(20) == 0 ? chance.nextInt(15) - 1 : chance.nextInt(6);
        String call = name + "(" + relation + ", " + a + ", " + b + ", " + c + ")";
        switch (name) {
            case "holds": ask(call, o -> (o ? oracle.holds(relation, a, b, c) : mill.holds(relation, a, b, c)) ? 1 : 0);
                break;
            case "holdsAt": ask(call + " hour " + hour, o -> (o ? oracle.holdsAt(relation, a, b, c, hour)
                    : mill.holdsAt(relation, a, b, c, hour)) ? 1 : 0);
                break;
            case "holdsAnew": ask(call + " hour " + hour, o -> (o ? oracle.holdsAnew(relation, a, b, c, hour)
                    : mill.holdsAnew(relation, a, b, c, hour)) ? 1 : 0);
                break;
            case "size": ask("size(" + relation + ")", o -> o ? oracle.size(relation) : mill.size(relation));
                break;
            case "at": ask("at(" + relation + ", " + number + ")", o -> o ? oracle.at(relation, number) : mill.at(relation, number));
                break;
            case "stratum": ask("stratum(" + relation + ")", o -> o ? oracle.stratum(relation) : mill.stratum(relation));
                break;
            case "ways": ask(call, o -> o ? oracle.ways(relation, a, b, c) : mill.ways(relation, a, b, c));
                break;
            case "cheapest": ask(call, o -> o ? oracle.cheapest(relation, a, b, c) : mill.cheapest(relation, a, b, c));
                break;
            case "needed": ask(call, o -> o ? oracle.needed(relation, a, b, c) : mill.needed(relation, a, b, c));
                break;
            case "whyNot": ask(call, o -> o ? oracle.whyNot(relation, a, b, c) : mill.whyNot(relation, a, b, c));
                break;
            case "goals": goals(relation, t);
                break;
            case "broken": ask("broken()", o -> o ? oracle.broken() : mill.broken());
                break;
            case "repair": ask("repair()", o -> o ? oracle.repair() : mill.repair());
                break;
            case "order": ask("order(" + number + ", " + (hour - 1) + ")", o -> o ? oracle.order(number, hour - 1) : mill.order(number, hour - 1));
                break;
            case "joins": ask("joins(" + number + ")", o -> o ? oracle.joins(number) : mill.joins(number));
                break;
            default: ask("indexes(" + relation + ")", o -> o ? oracle.indexes(relation) : mill.indexes(relation));
        }
    }

    private void goals(int relation, int[] t) {
        for (int i = 0; i < 3; i++) {
            if (chance.nextInt(3) == 0 && (i < columnsOf(relation) || chance.nextInt(100) == 0)) {
                t[i] = -9;
            }
        }
        ask("goals(" + relation + ", " + t[0] + ", " + t[1] + ", " + t[2] + ")", o -> o
                ? oracle.goals(relation, t[0], t[1], t[2]) : mill.goals(relation, t[0], t[1], t[2]));
    }
}
