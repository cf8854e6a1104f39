import java.math.BigInteger;
import java.util.ArrayList;
import java.util.Arrays;
import java.util.HashMap;
import java.util.HashSet;
import java.util.LinkedHashSet;
import java.util.List;
import java.util.Map;
import java.util.Set;
import java.util.TreeMap;

/**
 * The document once more, in its plainest form and without regard to speed: models are kept
 * nowhere, every answer is found from the facts and rules. Runs of Datalogmill are held against it.
 */
final class Oracle {
    private static final int LIMIT = 48;

    private static final class Literal {
        char form;
        int subject;
        int[] terms;
    }

    private static final class Rule {
        int target = -1;
        int[] head = new int[3];
        List<Literal> body = new ArrayList<>();
        boolean removed;
    }

    private static final class Fact {
        int relation;
        List<Integer> tuple;
        int cost;
        int from;
        int to;
        boolean dropped;
    }

    /** What is to be done with each assignment; true ends the search. */
    private interface Visitor {
        boolean come(int place, Integer[] values);
    }

    private final int[] columns = new int[10];
    private final int[] kinds = new int[10];
    private final int[] keys = new int[10];
    private final List<Fact> facts = new ArrayList<>();
    private final List<Rule> rules = new ArrayList<>();
    private final List<Rule> denials = new ArrayList<>();
    private Rule draft = new Rule();
    private int now;

    private boolean declared(int relation) {
        return relation >= 0 && relation < 10 && columns[relation] > 0;
    }

    private void relationOrThrow(int relation) {
        if (!declared(relation)) {
            throw new IndexOutOfBoundsException();
        }
    }

    private boolean tupleOk(int relation, int low, int... numbers) {
        for (int i = 0; i < 3; i++) {
            if (i < columns[relation] ? numbers[i] < low || numbers[i] > 127 : numbers[i] != 0) {
                return false;
            }
        }
        return true;
    }

    void declare(int relation, int itsColumns, int kind, int key) {
        if (relation < 0 || relation > 9 || kind < 0 || kind > 3) {
            throw new IndexOutOfBoundsException();
        }
        if (itsColumns < 1 || itsColumns > 3 || kind == 0 && (key < 1 || key > itsColumns)
                || kind != 0 && key != itsColumns - 1) {
            throw new IllegalArgumentException();
        }
        if (declared(relation)) {
            throw new IllegalStateException();
        }
        columns[relation] = itsColumns;
        kinds[relation] = kind;
        keys[relation] = key;
    }

    private boolean allModelsFit() {
        for (int hour = 0; hour < 4; hour++) {
            if (model(hour, -1, -1) == null) {
                return false;
            }
        }
        return true;
    }

    int fact(int relation, int first, int second, int third, int cost, int from, int to) {
        relationOrThrow(relation);
        if (!tupleOk(relation, 0, first, second, third) || cost < 1 || cost > 100 || from < 0 || from > 3
                || to < from || to > 3) {
            throw new IllegalArgumentException();
        }
        if (facts.size() == 24) {
            throw new IllegalStateException();
        }
        Fact fact = new Fact();
        fact.relation = relation;
        fact.tuple = List.of(first, second, third);
        fact.cost = cost;
        fact.from = from;
        fact.to = to;
        facts.add(fact);
        if (!allModelsFit()) {
            facts.remove(facts.size() - 1);
            throw new IllegalStateException();
        }
        return facts.size() - 1;
    }

    int drop(int number) {
        if (number < 0 || number >= facts.size()) {
            throw new IndexOutOfBoundsException();
        }
        Fact fact = facts.get(number);
        if (fact.dropped) {
            throw new IllegalStateException();
        }
        fact.dropped = true;
        if (!allModelsFit()) {
            fact.dropped = false;
            throw new IllegalStateException();
        }
        return (int) facts.stream().filter(f -> !f.dropped).count();
    }

    int pass() {
        if (now == 3) {
            throw new IllegalStateException();
        }
        return ++now;
    }

    void head(int relation, int first, int second, int third) {
        relationOrThrow(relation);
        if (!tupleOk(relation, -8, first, second, third)) {
            throw new IllegalArgumentException();
        }
        draft.target = relation;
        draft.head = new int[] {first, second, third};
    }

    private int push(char form, int subject, int... terms) {
        Literal literal = new Literal();
        literal.form = form;
        literal.subject = subject;
        literal.terms = terms;
        draft.body.add(literal);
        return draft.body.size();
    }

    int atom(int relation, boolean holds, int first, int second, int third) {
        relationOrThrow(relation);
        if (!tupleOk(relation, -8, first, second, third)) {
            throw new IllegalArgumentException();
        }
        if (draft.body.size() == 5
                || holds && draft.body.stream().filter(l -> l.form == '+').count() == 3) {
            throw new IllegalStateException();
        }
        return push(holds ? '+' : '-', relation, Arrays.copyOf(new int[] {first, second, third}, columns[relation]));
    }

    int compare(int how, int first, int second) {
        if (how < 0 || how > 3) {
            throw new IndexOutOfBoundsException();
        }
        if (first < -8 || first > 127 || second < -8 || second > 127) {
            throw new IllegalArgumentException();
        }
        if (draft.body.size() == 5) {
            throw new IllegalStateException();
        }
        return push('?', how, first, second);
    }

    int add(int first, int second, int third) {
        if (first < -8 || first > 127 || second < -8 || second > 127 || third < -8 || third > 127) {
            throw new IllegalArgumentException();
        }
        if (draft.body.size() == 5) {
            throw new IllegalStateException();
        }
        return push('=', 0, first, second, third);
    }

    int clear() {
        int had = draft.body.size();
        draft = new Rule();
        return had;
    }

    private static Set<Integer> variables(int... terms) {
        Set<Integer> set = new HashSet<>();
        for (int term : terms) {
            if (term < 0) {
                set.add(term);
            }
        }
        return set;
    }

    private Set<Integer> boundBy(Rule rule) {
        Set<Integer> bound = new HashSet<>();
        for (Literal literal : rule.body) {
            int[] asked = literal.form == '+' ? new int[0]
                    : literal.form == '=' ? new int[] {literal.terms[1], literal.terms[2]} : literal.terms;
            if (!bound.containsAll(variables(asked))) {
                return null;
            }
            if (literal.form == '+') {
                bound.addAll(variables(literal.terms));
            } else if (literal.form == '=') {
                bound.addAll(variables(literal.terms[0]));
            }
        }
        return bound;
    }

    int enter() {
        Set<Integer> bound = boundBy(draft);
        if (draft.target < 0 || bound == null || !bound.containsAll(variables(draft.head))) {
            throw new IllegalArgumentException();
        }
        if (rules.size() == 12) {
            throw new IllegalStateException();
        }
        rules.add(draft);
        if (strata() == null || !allModelsFit()) {
            rules.remove(rules.size() - 1);
            throw new IllegalStateException();
        }
        draft = new Rule();
        return rules.size() - 1;
    }

    int deny() {
        if (draft.body.isEmpty() || boundBy(draft) == null) {
            throw new IllegalArgumentException();
        }
        if (denials.size() == 6) {
            throw new IllegalStateException();
        }
        denials.add(draft);
        draft = new Rule();
        return denials.size() - 1;
    }

    int remove(int number) {
        if (number < 0 || number >= rules.size()) {
            throw new IndexOutOfBoundsException();
        }
        Rule rule = rules.get(number);
        if (rule.removed) {
            throw new IllegalStateException();
        }
        rule.removed = true;
        if (!allModelsFit()) {
            rule.removed = false;
            throw new IllegalStateException();
        }
        return (int) rules.stream().filter(r -> !r.removed).count();
    }

    private int occurrences(Rule rule, int term) {
        int times = 0;
        for (int i = 0; i < columns[rule.target]; i++) {
            times += rule.head[i] == term ? 1 : 0;
        }
        for (Literal literal : rule.body) {
            for (int other : literal.terms) {
                times += other == term ? 1 : 0;
            }
        }
        return times;
    }

    private boolean grows(Rule rule, Literal atom) {
        int term = atom.terms[atom.terms.length - 1];
        if (term >= 0) {
            return false;
        }
        int besides = occurrences(rule, term) - 1;
        if (besides == 0) {
            return true;
        }
        if (besides > 1 || kinds[rule.target] != kinds[atom.subject]) {
            return false;
        }
        int last = rule.head[columns[rule.target] - 1];
        if (last == term) {
            return true;
        }
        if (kinds[atom.subject] == 3) {
            return false;
        }
        for (Literal literal : rule.body) {
            if (literal.form == '=' && (literal.terms[1] == term || literal.terms[2] == term)) {
                int sum = literal.terms[0];
                return sum < 0 && last == sum && occurrences(rule, sum) == 2;
            }
        }
        return false;
    }

    /** The least strata, null if there are none. */
    private int[] strata() {
        int[] strata = new int[10];
        boolean changed = true;
        while (changed) {
            changed = false;
            for (Rule rule : rules) {
                for (Literal literal : rule.body) {
                    if (rule.removed || literal.form != '+' && literal.form != '-') {
                        continue;
                    }
                    boolean above = literal.form == '-' || kinds[literal.subject] != 0 && !grows(rule, literal);
                    int least = strata[literal.subject] + (above ? 1 : 0);
                    if (strata[rule.target] < least) {
                        strata[rule.target] = least;
                        changed = true;
                        if (least > 50) {
                            return null;
                        }
                    }
                }
            }
        }
        return strata;
    }

    /** Relation and key to tuple. */
    private List<Integer> identity(int relation, List<Integer> tuple) {
        List<Integer> identity = new ArrayList<>(tuple);
        if (kinds[relation] != 0) {
            identity.set(columns[relation] - 1, 0);
        }
        identity.add(0, relation);
        return identity;
    }

    private Map<List<Integer>, List<Integer>> model(int hour, int without, int andWithout) {
        Map<List<Integer>, List<Integer>> model = new HashMap<>();
        int[] strata = strata();
        for (int stratum = 0; stratum < 12; stratum++) {
            for (int i = 0; i < facts.size(); i++) {
                Fact fact = facts.get(i);
                if (strata[fact.relation] == stratum && holds(fact, hour) && i != without && i != andWithout) {
                    put(model, fact.relation, fact.tuple);
                }
            }
            boolean changed = true;
            while (changed && model.size() <= LIMIT) {
                changed = false;
                for (Rule rule : rules) {
                    if (rule.removed || strata[rule.target] != stratum) {
                        continue;
                    }
                    Set<List<Integer>> found = new LinkedHashSet<>();
                    visit(rule, 0, new Integer[8], model, (place, values) -> {
                        if (place == rule.body.size()) {
                            found.add(tuple(rule.head, values));
                        }
                        return false;
                    });
                    for (List<Integer> tuple : found) {
                        changed |= put(model, rule.target, tuple);
                    }
                }
            }
        }
        return model.size() > LIMIT ? null : model;
    }

    private static boolean holds(Fact fact, int hour) {
        return !fact.dropped && fact.from <= hour && hour <= fact.to;
    }

    private boolean put(Map<List<Integer>, List<Integer>> model, int relation, List<Integer> tuple) {
        List<Integer> identity = identity(relation, tuple);
        List<Integer> old = model.get(identity);
        if (old == null) {
            model.put(identity, tuple);
            return true;
        }
        int last = columns[relation] - 1;
        int had = old.get(last);
        int got = tuple.get(last);
        int value = kinds[relation] == 1 ? Math.min(had, got) : kinds[relation] == 2 ? Math.max(had, got) : had | got;
        if (kinds[relation] == 0 || value == had) {
            return false;
        }
        List<Integer> merged = new ArrayList<>(old);
        merged.set(last, value);
        model.put(identity, merged);
        return true;
    }

    private static Integer value(int term, Integer[] values) {
        return term >= 0 ? Integer.valueOf(term) : values[-1 - term];
    }

    private static List<Integer> tuple(int[] terms, Integer[] values) {
        List<Integer> tuple = new ArrayList<>();
        for (int i = 0; i < 3; i++) {
            tuple.add(i < terms.length ? value(terms[i], values) : Integer.valueOf(0));
        }
        return tuple;
    }

    private boolean visit(Rule rule, int place, Integer[] values, Map<List<Integer>, List<Integer>> model,
            Visitor visitor) {
        if (visitor.come(place, values)) {
            return true;
        }
        if (place == rule.body.size()) {
            return false;
        }
        Literal literal = rule.body.get(place);
        if (literal.form == '+') {
            for (Map.Entry<List<Integer>, List<Integer>> entry : new ArrayList<>(model.entrySet())) {
                Integer[] next = values.clone();
                if (entry.getKey().get(0) == literal.subject && unify(literal.terms, entry.getValue(), next, 3)
                        && visit(rule, place + 1, next, model, visitor)) {
                    return true;
                }
            }
            return false;
        }
        Integer[] next = values.clone();
        boolean holds;
        if (literal.form == '-') {
            List<Integer> tuple = tuple(literal.terms, values);
            holds = !tuple.equals(model.get(identity(literal.subject, tuple)));
        } else if (literal.form == '?') {
            int a = value(literal.terms[0], values);
            int b = value(literal.terms[1], values);
            holds = literal.subject == 0 ? a == b : literal.subject == 1 ? a != b : literal.subject == 2 ? a < b : a <= b;
        } else {
            int sum = Math.min(127, value(literal.terms[1], values) + value(literal.terms[2], values));
            holds = unify(new int[] {literal.terms[0]}, List.of(sum), next, 1);
        }
        return holds && visit(rule, place + 1, next, model, visitor);
    }

    private static boolean unify(int[] terms, List<Integer> tuple, Integer[] values, int most) {
        for (int i = 0; i < terms.length && i < most; i++) {
            Integer had = value(terms[i], values);
            if (had == null) {
                values[-1 - terms[i]] = tuple.get(i);
            } else if (!had.equals(tuple.get(i))) {
                return false;
            }
        }
        return true;
    }

    private boolean in(Map<List<Integer>, List<Integer>> model, int relation, List<Integer> tuple) {
        return tuple.equals(model.get(identity(relation, tuple)));
    }

    boolean holds(int relation, int first, int second, int third) {
        relationOrThrow(relation);
        return in(model(now, -1, -1), relation, List.of(first, second, third));
    }

    boolean holdsAt(int relation, int first, int second, int third, int hour) {
        relationOrThrow(relation);
        if (hour < 0 || hour > 3) {
            throw new IllegalArgumentException();
        }
        return in(model(hour, -1, -1), relation, List.of(first, second, third));
    }

    boolean holdsAnew(int relation, int first, int second, int third, int hour) {
        return holdsAt(relation, first, second, third, hour);
    }

    private List<List<Integer>> tuples(int relation) {
        List<List<Integer>> tuples = new ArrayList<>();
        for (Map.Entry<List<Integer>, List<Integer>> entry : model(now, -1, -1).entrySet()) {
            if (entry.getKey().get(0) == relation) {
                tuples.add(entry.getValue());
            }
        }
        tuples.sort((a, b) -> Integer.compare(code(a), code(b)));
        return tuples;
    }

    private static int code(List<Integer> tuple) {
        return 16384 * tuple.get(0) + 128 * tuple.get(1) + tuple.get(2);
    }

    int size(int relation) {
        relationOrThrow(relation);
        return tuples(relation).size();
    }

    int at(int relation, int place) {
        relationOrThrow(relation);
        List<List<Integer>> tuples = tuples(relation);
        if (place < 0 || place >= tuples.size()) {
            throw new IndexOutOfBoundsException();
        }
        return code(tuples.get(place));
    }

    int stratum(int relation) {
        relationOrThrow(relation);
        return strata()[relation];
    }

    private int asked(int relation) {
        return kinds[relation] == 0 ? columns[relation] : columns[relation] - 1;
    }

    int ways(int relation, int first, int second, int third) {
        relationOrThrow(relation);
        Map<List<Integer>, List<Integer>> model = model(now, -1, -1);
        List<Integer> tuple = List.of(first, second, third);
        if (!in(model, relation, tuple)) {
            return 0;
        }
        List<Integer> identity = identity(relation, tuple);
        int[] count = new int[1];
        for (Fact fact : facts) {
            if (holds(fact, now) && identity(fact.relation, fact.tuple).equals(identity)) {
                count[0]++;
            }
        }
        for (Rule rule : rules) {
            if (!rule.removed) {
                visit(rule, 0, new Integer[8], model, (place, values) -> {
                    if (place == rule.body.size() && identity(rule.target, tuple(rule.head, values)).equals(identity)) {
                        count[0]++;
                    }
                    return false;
                });
            }
        }
        return count[0];
    }

    int cheapest(int relation, int first, int second, int third) {
        relationOrThrow(relation);
        Map<List<Integer>, List<Integer>> model = model(now, -1, -1);
        List<Integer> tuple = List.of(first, second, third);
        if (!in(model, relation, tuple)) {
            return -1;
        }
        Map<List<Integer>, BigInteger> costs = new HashMap<>();
        for (Fact fact : facts) {
            if (holds(fact, now)) {
                costs.merge(identity(fact.relation, fact.tuple), BigInteger.valueOf(fact.cost), BigInteger::min);
            }
        }
        Map<List<Integer>, BigInteger> before = null;
        while (!costs.equals(before)) {
            before = new HashMap<>(costs);
            for (Rule rule : rules) {
                if (!rule.removed) {
                    visit(rule, 0, new Integer[8], model, (place, values) -> {
                        if (place == rule.body.size()) {
                            lower(costs, rule, values);
                        }
                        return false;
                    });
                }
            }
        }
        return costs.get(identity(relation, tuple)).min(BigInteger.valueOf(1000000)).intValue();
    }

    private void lower(Map<List<Integer>, BigInteger> costs, Rule rule, Integer[] values) {
        BigInteger sum = BigInteger.ONE;
        for (Literal literal : rule.body) {
            if (literal.form == '+') {
                BigInteger cost = costs.get(identity(literal.subject, tuple(literal.terms, values)));
                if (cost == null) {
                    return;
                }
                sum = sum.add(cost);
            }
        }
        costs.merge(identity(rule.target, tuple(rule.head, values)), sum, BigInteger::min);
    }

    int needed(int relation, int first, int second, int third) {
        relationOrThrow(relation);
        List<Integer> tuple = List.of(first, second, third);
        if (!in(model(now, -1, -1), relation, tuple)) {
            return 0;
        }
        int set = 0;
        for (int i = 0; i < facts.size(); i++) {
            if (holds(facts.get(i), now)) {
                Map<List<Integer>, List<Integer>> model = model(now, i, -1);
                if (model != null && !in(model, relation, tuple)) {
                    set |= 1 << i;
                }
            }
        }
        return set;
    }

    int whyNot(int relation, int first, int second, int third) {
        relationOrThrow(relation);
        if (!tupleOk(relation, 0, first, second, third)) {
            throw new IllegalArgumentException();
        }
        Map<List<Integer>, List<Integer>> model = model(now, -1, -1);
        List<Integer> tuple = List.of(first, second, third);
        if (in(model, relation, tuple)) {
            throw new IllegalStateException();
        }
        int best = -1;
        int most = -1;
        for (int i = 0; i < rules.size(); i++) {
            Rule rule = rules.get(i);
            Integer[] values = new Integer[8];
            if (rule.removed || rule.target != relation || !unify(rule.head, tuple, values, asked(relation))) {
                continue;
            }
            int[] deepest = new int[1];
            visit(rule, 0, values, model, (place, v) -> {
                deepest[0] = Math.max(deepest[0], place);
                return false;
            });
            if (deepest[0] > most) {
                most = deepest[0];
                best = i;
            }
        }
        return best < 0 ? -1 : 10 * best + most;
    }

    private int brokenIn(Map<List<Integer>, List<Integer>> model) {
        int broken = 0;
        for (Rule denial : denials) {
            if (visit(denial, 0, new Integer[8], model, (place, values) -> place == denial.body.size())) {
                broken++;
            }
        }
        for (int relation = 0; relation < 10; relation++) {
            Set<List<Integer>> seen = new HashSet<>();
            boolean breaks = false;
            for (Map.Entry<List<Integer>, List<Integer>> entry : model.entrySet()) {
                if (declared(relation) && kinds[relation] == 0 && entry.getKey().get(0) == relation) {
                    breaks |= !seen.add(entry.getValue().subList(0, keys[relation]));
                }
            }
            broken += breaks ? 1 : 0;
        }
        return broken;
    }

    int broken() {
        return brokenIn(model(now, -1, -1));
    }

    int repair() {
        if (broken() == 0) {
            return 0;
        }
        TreeMap<Long, Integer> sets = new TreeMap<>();
        for (int i = 0; i < facts.size(); i++) {
            for (int j = 0; j <= i; j++) {
                if (holds(facts.get(i), now) && holds(facts.get(j), now)) {
                    int set = 1 << i | 1 << j;
                    sets.put((long) Integer.bitCount(set) << 40 | set, set);
                }
            }
        }
        for (int set : sets.values()) {
            int low = Integer.numberOfTrailingZeros(set);
            int high = 31 - Integer.numberOfLeadingZeros(set);
            Map<List<Integer>, List<Integer>> model = model(now, low, high);
            if (model != null && brokenIn(model) == 0) {
                return set;
            }
        }
        return -1;
    }

    int goals(int relation, int first, int second, int third) {
        relationOrThrow(relation);
        int[] numbers = {first, second, third};
        List<Integer> start = new ArrayList<>(List.of(relation));
        for (int i = 0; i < 3; i++) {
            boolean free = numbers[i] == -9;
            if (i < columns[relation] ? !free && (numbers[i] < 0 || numbers[i] > 127) : numbers[i] != 0) {
                throw new IllegalArgumentException();
            }
            start.add(i < asked(relation) && !free ? numbers[i] : null);
        }
        Map<List<Integer>, List<Integer>> model = model(now, -1, -1);
        Set<List<Integer>> seen = new HashSet<>();
        List<List<Integer>> queue = new ArrayList<>(List.of(start));
        seen.add(start);
        for (int q = 0; q < queue.size(); q++) {
            List<Integer> goal = queue.get(q);
            for (Rule rule : rules) {
                Integer[] values = new Integer[8];
                if (rule.removed || rule.target != goal.get(0) || !poses(rule, goal, values)) {
                    continue;
                }
                visit(rule, 0, values, model, (place, v) -> {
                    if (place < rule.body.size() && "+-".indexOf(rule.body.get(place).form) >= 0) {
                        List<Integer> next = goal(rule.body.get(place), v);
                        if (seen.add(next)) {
                            queue.add(next);
                        }
                    }
                    return false;
                });
            }
        }
        return Math.min(400, seen.size());
    }

    private boolean poses(Rule rule, List<Integer> goal, Integer[] values) {
        for (int i = 0; i < asked(rule.target); i++) {
            if (goal.get(i + 1) != null
                    && !unify(new int[] {rule.head[i]}, List.of(goal.get(i + 1)), values, 1)) {
                return false;
            }
        }
        return true;
    }

    private List<Integer> goal(Literal atom, Integer[] values) {
        List<Integer> goal = new ArrayList<>(List.of(atom.subject));
        for (int i = 0; i < 3; i++) {
            goal.add(i < asked(atom.subject) ? value(atom.terms[i], values) : null);
        }
        return goal;
    }

    /** Places and sets of columns, in the order of the plan. */
    private List<int[]> plan(Rule rule) {
        List<int[]> plan = new ArrayList<>();
        Set<Integer> known = new HashSet<>();
        List<Integer> left = new ArrayList<>();
        for (int place = 0; place < rule.body.size(); place++) {
            if (rule.body.get(place).form == '+') {
                left.add(place);
            }
        }
        while (!left.isEmpty()) {
            int[] best = null;
            for (int place : left) {
                int set = 0;
                int[] terms = rule.body.get(place).terms;
                for (int i = 0; i < terms.length; i++) {
                    set |= terms[i] >= 0 || known.contains(terms[i]) ? 1 << i : 0;
                }
                if (best == null || Integer.bitCount(set) > Integer.bitCount(best[1])) {
                    best = new int[] {place, set};
                }
            }
            plan.add(best);
            left.remove(Integer.valueOf(best[0]));
            known.addAll(variables(rule.body.get(best[0]).terms));
        }
        return plan;
    }

    private Rule ruleOrThrow(int rule) {
        if (rule < 0 || rule >= rules.size()) {
            throw new IndexOutOfBoundsException();
        }
        return rules.get(rule);
    }

    int order(int rule, int place) {
        List<int[]> plan = plan(ruleOrThrow(rule));
        if (place < 0) {
            throw new IndexOutOfBoundsException();
        }
        return place < plan.size() ? plan.get(place)[0] : -1;
    }

    int joins(int rule) {
        List<Literal> kept = new ArrayList<>();
        int count = 0;
        for (Literal literal : ruleOrThrow(rule).body) {
            if (literal.form == '+') {
                int relation = literal.subject;
                boolean needless = kinds[relation] == 0 && keys[relation] < columns[relation] && kept.stream()
                        .anyMatch(k -> k.subject == relation && Arrays.equals(
                                Arrays.copyOf(k.terms, keys[relation]), Arrays.copyOf(literal.terms, keys[relation])));
                count += needless ? 0 : 1;
                kept.add(literal);
            }
        }
        return count;
    }

    /** By chains of sets: a search takes over the index of a search that it holds all columns of. */
    int indexes(int relation) {
        relationOrThrow(relation);
        Set<Integer> sets = new HashSet<>();
        for (Rule rule : rules) {
            for (int[] step : plan(rule)) {
                if (!rule.removed && rule.body.get(step[0]).subject == relation && step[1] != 0) {
                    sets.add(step[1]);
                }
            }
        }
        return fewestChains(new ArrayList<>(sets), new ArrayList<>());
    }

    private int fewestChains(List<Integer> left, List<List<Integer>> chains) {
        if (left.isEmpty()) {
            return chains.size();
        }
        List<Integer> rest = new ArrayList<>(left.subList(1, left.size()));
        int set = left.get(0);
        int best = 100;
        for (int i = 0; i <= chains.size(); i++) {
            List<List<Integer>> next = new ArrayList<>();
            chains.forEach(c -> next.add(new ArrayList<>(c)));
            if (i == chains.size()) {
                next.add(new ArrayList<>());
            }
            boolean fits = next.get(i).stream().allMatch(o -> (o & set) == o || (o & set) == set);
            next.get(i).add(set);
            best = fits ? Math.min(best, fewestChains(rest, next)) : best;
        }
        return best;
    }
}
