/**
 * A deductive database: relations, facts that hold for some hours, rules by strata, and the
 * least model of each hour. Rows are made in constructors and used again, as all calls of a run
 * share one room.
 */
public final class Datalogmill {
    public static final int NONE = -1;
    public static final int FREE = -9;
    public static final int PLAIN = 0, LEAST = 1, GREATEST = 2, UNION = 3;
    public static final int SAME = 0, OTHER = 1, LESS = 2, AT_MOST = 3;

    private static final int RELATIONS = 10;
    private static final int COLUMNS = 3;
    private static final int HIGHEST = 127;
    private static final int VARIABLES = 8;
    private static final int HOURS = 4;
    private static final int MOST_FACTS = 24;
    private static final int DEAREST_FACT = 100;
    private static final int MOST_RULES = 12;
    private static final int MOST_DENIALS = 6;
    private static final int MOST_LITERALS = 5;
    private static final int MOST_HOLDING = 3;
    private static final int MOST_TUPLES = 48;
    private static final int MOST_COST = 1000000;
    private static final int MOST_GOALS = 400;

    /** Far above the moves of a walk: 48 tuples for each of 3 atoms, and 5 literals there and back. */
    private static final int MOST_MOVES = 10000000;
    /** Far above the rounds of a stratum: each changes one of 48 tuples, each 128 times at most. */
    private static final int MOST_ROUNDS = 10000;

    /** Forms of literals. */
    private static final int HOLDING = 0, LACKING = 1, COMPARING = 2, SUMMING = 3;
    /** The place of the head among the terms of a body, behind those of the literals. */
    private static final int HEAD = MOST_LITERALS;
    /** What the columns of a call may have. */
    private static final int VALUE = 0, TERM = 1, ASKED = 2;

    private static final int COLUMN_BITS = 7;
    private static final int CODE_BITS = COLUMNS * COLUMN_BITS;
    /** A slot of the goals' table is a goal's product with this, by its upper bits. */
    private static final int SCATTER = 0x9E3779B1;
    private static final int TABLE_BITS = 10;

    /**
     * For each order of three columns the sets of columns that come first in it: the bit s for the
     * set s, in which the bit c stands for the column c; the first row is 1 << 1 | 1 << 3 | 1 << 7.
     */
    private static final int[] SERVED = {138, 162, 140, 196, 176, 208};

    private final Schema schema;
    private final Facts facts;
    private final Program program;
    private final Body draft;
    private final Model[] models;
    private final Model[] spares;
    private final Model trial;
    private final Walk walk;
    private final Mill mill;
    private final Costs costs;
    private final Goals asked;
    private final Plan plan;
    private int now;

    public Datalogmill() {
        Schema relations = new Schema();
        Facts told = new Facts();
        Program entered = new Program(relations);
        Body begun = new Body();
        Model aside = new Model(relations);
        Walk through = new Walk(relations, begun, aside);
        schema = relations;
        facts = told;
        program = entered;
        draft = begun;
        trial = aside;
        walk = through;
        mill = new Mill(told, entered, through);
        models = new Model[HOURS];
        spares = new Model[HOURS];
        for (int hour = 0; hour < HOURS; hour++) {
            models[hour] = new Model(relations);
            spares[hour] = new Model(relations);
        }
        costs = new Costs();
        asked = new Goals();
        plan = new Plan();
    }

    // ---- relations, facts, hours

    public void declare(int relation, int columns, int kind, int key)
            throws IndexOutOfBoundsException, IllegalArgumentException, IllegalStateException {
        if (relation < 0 || relation >= RELATIONS || kind < PLAIN || kind > UNION) {
            throw new IndexOutOfBoundsException("no such relation or kind");
        }
        if (columns < 1 || columns > COLUMNS || !isKey(columns, kind, key)) {
            throw new IllegalArgumentException("columns or key out of range");
        }
        if (schema.isDeclared(relation)) {
            throw new IllegalStateException("declared already");
        }
        schema.note(relation, columns, kind, key);
    }

    public int fact(int relation, int first, int second, int third, int cost, int from, int to)
            throws IndexOutOfBoundsException, IllegalArgumentException, IllegalStateException {
        if (!schema.isDeclared(relation)) {
            throw new IndexOutOfBoundsException("no such relation");
        }
        if (!schema.permits(relation, VALUE, first, second, third) || cost < 1 || cost > DEAREST_FACT
                || from < 0 || from >= HOURS || to < from || to >= HOURS) {
            throw new IllegalArgumentException("value, cost, from or to out of range");
        }
        if (facts.count >= MOST_FACTS) {
            throw new IllegalStateException("no more facts");
        }
        facts.append(relation, packed(first, second, third), cost, from, to);
        if (!renew(from, to)) {
            facts.takeBack();
            throw new IllegalStateException("too many tuples");
        }
        return facts.count - 1;
    }

    public int drop(int fact)
            throws IndexOutOfBoundsException, IllegalStateException {
        if (fact < 0 || fact >= facts.count) {
            throw new IndexOutOfBoundsException("no such fact");
        }
        if (facts.isDropped(fact)) {
            throw new IllegalStateException("dropped already");
        }
        facts.setDropped(fact, true);
        if (!renew(facts.fromOf(fact), facts.toOf(fact))) {
            facts.setDropped(fact, false);
            throw new IllegalStateException("too many tuples");
        }
        return facts.left;
    }

    public int pass()
            throws IllegalStateException {
        if (now >= HOURS - 1) {
            throw new IllegalStateException("no hour is to come");
        }
        now++;
        costs.known = false;
        return now;
    }

    // ---- the draft of a rule

    public void head(int relation, int first, int second, int third)
            throws IndexOutOfBoundsException, IllegalArgumentException {
        if (!schema.isDeclared(relation)) {
            throw new IndexOutOfBoundsException("no such relation");
        }
        if (!schema.permits(relation, TERM, first, second, third)) {
            throw new IllegalArgumentException("term out of range");
        }
        draft.setHead(relation, first, second, third);
    }

    public int atom(int relation, boolean holds, int first, int second, int third)
            throws IndexOutOfBoundsException, IllegalArgumentException, IllegalStateException {
        if (!schema.isDeclared(relation)) {
            throw new IndexOutOfBoundsException("no such relation");
        }
        if (!schema.permits(relation, TERM, first, second, third)) {
            throw new IllegalArgumentException("term out of range");
        }
        if (draft.count >= MOST_LITERALS || holds && draft.holdingAtoms() >= MOST_HOLDING) {
            throw new IllegalStateException("no more such literals");
        }
        return draft.push(holds ? HOLDING : LACKING, relation, first, second, third);
    }

    public int compare(int how, int first, int second)
            throws IndexOutOfBoundsException, IllegalArgumentException, IllegalStateException {
        if (how < SAME || how > AT_MOST) {
            throw new IndexOutOfBoundsException("no such comparison");
        }
        if (!isTerm(first) || !isTerm(second)) {
            throw new IllegalArgumentException("term out of range");
        }
        if (draft.count >= MOST_LITERALS) {
            throw new IllegalStateException("no more literals");
        }
        return draft.push(COMPARING, how, first, second, 0);
    }

    public int add(int first, int second, int third)
            throws IllegalArgumentException, IllegalStateException {
        if (!isTerm(first) || !isTerm(second) || !isTerm(third)) {
            throw new IllegalArgumentException("term out of range");
        }
        if (draft.count >= MOST_LITERALS) {
            throw new IllegalStateException("no more literals");
        }
        return draft.push(SUMMING, 0, first, second, third);
    }

    public int clear() {
        int had = draft.count;
        draft.empty();
        return had;
    }

    public int enter()
            throws IllegalArgumentException, IllegalStateException {
        if (draft.target == NONE || !draft.isSafe()) {
            throw new IllegalArgumentException("no head, or not safe");
        }
        if (program.ruleCount >= MOST_RULES) {
            throw new IllegalStateException("no more rules");
        }
        program.append(draft);
        if (!program.stratify() || !renew(0, HOURS - 1)) {
            program.takeBack();
            throw new IllegalStateException("no strata, or too many tuples");
        }
        draft.empty();
        return program.ruleCount - 1;
    }

    public int deny()
            throws IllegalArgumentException, IllegalStateException {
        if (draft.count == 0 || draft.boundVariables() == NONE) {
            throw new IllegalArgumentException("no literals, or not safe");
        }
        if (program.denialCount >= MOST_DENIALS) {
            throw new IllegalStateException("no more denials");
        }
        program.appendDenial(draft);
        draft.empty();
        return program.denialCount - 1;
    }

    public int remove(int rule)
            throws IndexOutOfBoundsException, IllegalStateException {
        if (!program.hasRule(rule)) {
            throw new IndexOutOfBoundsException("no such rule");
        }
        Body body = program.rule(rule);
        if (body.removed) {
            throw new IllegalStateException("removed already");
        }
        body.removed = true;
        if (!program.stratify() || !renew(0, HOURS - 1)) {
            body.removed = false;
            program.stratify();
            throw new IllegalStateException("too many tuples");
        }
        return program.rulesLeft();
    }

    // ---- models

    public boolean holds(int relation, int first, int second, int third)
            throws IndexOutOfBoundsException {
        if (!schema.isDeclared(relation)) {
            throw new IndexOutOfBoundsException("no such relation");
        }
        return isIn(present(), relation, first, second, third);
    }

    public boolean holdsAt(int relation, int first, int second, int third, int hour)
            throws IndexOutOfBoundsException, IllegalArgumentException {
        if (!schema.isDeclared(relation)) {
            throw new IndexOutOfBoundsException("no such relation");
        }
        if (hour < 0 || hour >= HOURS) {
            throw new IllegalArgumentException("no such hour");
        }
        return isIn(modelOf(hour), relation, first, second, third);
    }

    public boolean holdsAnew(int relation, int first, int second, int third, int hour)
            throws IndexOutOfBoundsException, IllegalArgumentException {
        if (!schema.isDeclared(relation)) {
            throw new IndexOutOfBoundsException("no such relation");
        }
        if (hour < 0 || hour >= HOURS) {
            throw new IllegalArgumentException("no such hour");
        }
        mill.build(trial, hour, 0, true);
        return isIn(trial, relation, first, second, third);
    }

    public int size(int relation)
            throws IndexOutOfBoundsException {
        if (!schema.isDeclared(relation)) {
            throw new IndexOutOfBoundsException("no such relation");
        }
        return present().tuplesOf(relation);
    }

    public int at(int relation, int place)
            throws IndexOutOfBoundsException {
        int slot = schema.isDeclared(relation) ? present().slotAt(relation, place) : NONE;
        if (slot == NONE) {
            throw new IndexOutOfBoundsException("no such relation or tuple");
        }
        return present().codeOf(slot);
    }

    public int stratum(int relation)
            throws IndexOutOfBoundsException {
        if (!schema.isDeclared(relation)) {
            throw new IndexOutOfBoundsException("no such relation");
        }
        return program.levelOf(relation);
    }

    // ---- where tuples come from

    public int ways(int relation, int first, int second, int third)
            throws IndexOutOfBoundsException {
        if (!schema.isDeclared(relation)) {
            throw new IndexOutOfBoundsException("no such relation");
        }
        if (!isIn(present(), relation, first, second, third)) {
            return 0;
        }
        int code = packed(first, second, third);
        return waysByFacts(relation, code) + waysByRules(relation, code);
    }

    public int cheapest(int relation, int first, int second, int third)
            throws IndexOutOfBoundsException {
        if (!schema.isDeclared(relation)) {
            throw new IndexOutOfBoundsException("no such relation");
        }
        if (!isIn(present(), relation, first, second, third)) {
            return NONE;
        }
        findCosts();
        return costs.costOf(present().slotLike(relation, packed(first, second, third)));
    }

    public int needed(int relation, int first, int second, int third)
            throws IndexOutOfBoundsException {
        if (!schema.isDeclared(relation)) {
            throw new IndexOutOfBoundsException("no such relation");
        }
        int set = 0;
        boolean here = isIn(present(), relation, first, second, third);
        for (int fact = 0; here && fact < facts.count; fact++) {
            if (facts.holdsIn(fact, now)) {
                mill.build(trial, now, 1 << fact, false);
                boolean stays = trial.over || isIn(trial, relation, first, second, third);
                set |= stays ? 0 : 1 << fact;
            }
        }
        return set;
    }

    public int whyNot(int relation, int first, int second, int third)
            throws IndexOutOfBoundsException, IllegalArgumentException, IllegalStateException {
        if (!schema.isDeclared(relation)) {
            throw new IndexOutOfBoundsException("no such relation");
        }
        if (!schema.permits(relation, VALUE, first, second, third)) {
            throw new IllegalArgumentException("value out of range");
        }
        if (isIn(present(), relation, first, second, third)) {
            throw new IllegalStateException("it is in the model");
        }
        int best = NONE;
        int most = NONE;
        for (int rule = 0; rule < program.ruleCount; rule++) {
            int held = literalsHeld(program.rule(rule), relation, packed(first, second, third));
            if (held > most) {
                most = held;
                best = rule;
            }
        }
        return best == NONE ? NONE : 10 * best + most;
    }

    // ---- constraints

    public int broken() {
        return brokenIn(present());
    }

    public int repair() {
        if (brokenIn(present()) == 0) {
            return 0;
        }
        for (int fact = 0; fact < facts.count; fact++) {
            if (facts.holdsIn(fact, now) && mends(1 << fact)) {
                return 1 << fact;
            }
        }
        for (int later = 1; later < facts.count; later++) {
            // By the later fact first, as its bit alone outweighs all bits below it.
            for (int earlier = 0; earlier < later && facts.holdsIn(later, now); earlier++) {
                if (facts.holdsIn(earlier, now) && mends(1 << later | 1 << earlier)) {
                    return 1 << later | 1 << earlier;
                }
            }
        }
        return NONE;
    }

    // ---- goals and plans

    public int goals(int relation, int first, int second, int third)
            throws IndexOutOfBoundsException, IllegalArgumentException {
        if (!schema.isDeclared(relation)) {
            throw new IndexOutOfBoundsException("no such relation");
        }
        if (!schema.permits(relation, ASKED, first, second, third)) {
            throw new IllegalArgumentException("value out of range");
        }
        asked.empty();
        asked.ask(schema.goalOf(relation, first, second, third));
        for (int i = 0; i < asked.count && asked.count < MOST_GOALS; i++) {
            askFor(asked.goalAt(i));
        }
        return asked.count;
    }

    public int order(int rule, int place)
            throws IndexOutOfBoundsException {
        if (!program.hasRule(rule) || place < 0) {
            throw new IndexOutOfBoundsException("no such rule, or no such place");
        }
        plan.make(program.rule(rule), schema);
        return plan.placeAt(place);
    }

    public int joins(int rule)
            throws IndexOutOfBoundsException {
        if (!program.hasRule(rule)) {
            throw new IndexOutOfBoundsException("no such rule");
        }
        Body body = program.rule(rule);
        int count = 0;
        for (int place = 0; place < body.count; place++) {
            if (body.formOf(place) == HOLDING && !isNeedless(body, place)) {
                count++;
            }
        }
        return count;
    }

    public int indexes(int relation)
            throws IndexOutOfBoundsException {
        if (!schema.isDeclared(relation)) {
            throw new IndexOutOfBoundsException("no such relation");
        }
        int searches = 0;
        for (int rule = 0; rule < program.ruleCount; rule++) {
            Body body = program.rule(rule);
            if (!body.removed) {
                plan.make(body, schema);
                searches |= plan.searchesOf(body, relation);
            }
        }
        return fewestOrders(searches);
    }

    // ---- what the calls are made of

    private static boolean isKey(int columns, int kind, int key) {
        return kind == PLAIN ? key >= 1 && key <= columns : key == columns - 1;
    }

    private static boolean isValue(int number) {
        return number >= 0 && number <= HIGHEST;
    }

    private static boolean isTerm(int number) {
        return number >= -VARIABLES && number <= HIGHEST;
    }

    private static boolean isPermitted(int sort, int number) {
        return isValue(number) || sort == TERM && isTerm(number) || sort == ASKED && number == FREE;
    }

    private static int packed(int first, int second, int third) {
        return first << 2 * COLUMN_BITS | second << COLUMN_BITS | third;
    }

    private static int shiftOf(int column) {
        return (COLUMNS - 1 - column) * COLUMN_BITS;
    }

    private static int columnOf(int code, int column) {
        return code >> (COLUMNS - 1 - column) * COLUMN_BITS & HIGHEST;
    }

    private static int picked(int column, int first, int second, int third) {
        return column == 0 ? first : column == 1 ? second : third;
    }

    private static int variableBit(int term) {
        return term < 0 && term >= -VARIABLES ? 1 << -1 - term : 0;
    }

    private Model modelOf(int hour) {
        Model model = hour >= 0 && hour < models.length ? models[hour] : trial;
        return model == null ? trial : model;
    }

    private Model spareOf(int hour) {
        Model model = hour >= 0 && hour < spares.length ? spares[hour] : trial;
        return model == null ? trial : model;
    }

    private Model present() {
        return modelOf(now);
    }

    private boolean isIn(Model model, int relation, int first, int second, int third) {
        return schema.permits(relation, VALUE, first, second, third)
                && model.has(relation, packed(first, second, third));
    }

    /** Finds the models of some hours anew; keeps them unless one has too many tuples. */
    private boolean renew(int from, int to) {
        for (int hour = from; hour <= to && hour < HOURS; hour++) {
            Model spare = spareOf(hour);
            mill.build(spare, hour, 0, false);
            if (spare.over) {
                return false;
            }
        }
        for (int hour = Math.max(from, 0); hour <= to && hour < HOURS; hour++) {
            Model old = modelOf(hour);
            models[hour] = spareOf(hour);
            spares[hour] = old;
        }
        costs.known = false;
        return true;
    }

    private int waysByFacts(int relation, int code) {
        int slot = present().slotLike(relation, code);
        int count = 0;
        for (int fact = 0; fact < facts.count; fact++) {
            if (facts.holdsIn(fact, now) && facts.relationOf(fact) == relation
                    && present().slotLike(relation, facts.codeOf(fact)) == slot) {
                count++;
            }
        }
        return count;
    }

    private int waysByRules(int relation, int code) {
        int count = 0;
        for (int rule = 0; rule < program.ruleCount; rule++) {
            Body body = program.rule(rule);
            if (canGive(body, relation, code, body.count)) {
                for (int i = 0; i < MOST_MOVES && walk.next(); i++) {
                    count++;
                }
            }
        }
        return count;
    }

    /** Starts a walk over the first literals of a rule by which its head is this tuple, if that can be. */
    private boolean canGive(Body body, int relation, int code, int end) {
        if (body.removed || body.target != relation) {
            return false;
        }
        walk.begin(body, present(), end);
        return walk.pose(code, schema.tellingSet(relation));
    }

    /** How many first literals of a rule can hold if it is to give a tuple; NONE if it cannot. */
    private int literalsHeld(Body body, int relation, int code) {
        for (int end = body.count; end >= 0; end--) {
            if (canGive(body, relation, code, end) && walk.next()) {
                return end;
            }
        }
        return NONE;
    }

    private void findCosts() {
        if (costs.known) {
            return;
        }
        costs.reset();
        for (int fact = 0; fact < facts.count; fact++) {
            if (facts.holdsIn(fact, now)) {
                int slot = present().slotLike(facts.relationOf(fact), facts.codeOf(fact));
                costs.lower(slot, facts.costOf(fact));
            }
        }
        boolean lower = true;
        for (int i = 0; i < MOST_ROUNDS && lower; i++) {
            lower = lowerByRules();
        }
        costs.known = true;
    }

    private boolean lowerByRules() {
        boolean lower = false;
        for (int rule = 0; rule < program.ruleCount; rule++) {
            Body body = program.rule(rule);
            walk.begin(body, present(), body.count);
            for (int i = 0; i < MOST_MOVES && !body.removed && walk.next(); i++) {
                int slot = present().slotLike(body.target, walk.tuple(HEAD));
                lower = costs.lower(slot, walk.cost(costs)) || lower;
            }
        }
        return lower;
    }

    private int brokenIn(Model model) {
        int count = 0;
        for (int denial = 0; denial < program.denialCount; denial++) {
            Body body = program.denial(denial);
            walk.begin(body, model, body.count);
            if (walk.next()) {
                count++;
            }
        }
        for (int relation = 0; relation < RELATIONS; relation++) {
            if (schema.hasOpenKey(relation) && model.breaksKey(relation)) {
                count++;
            }
        }
        return count;
    }

    private boolean mends(int set) {
        mill.build(trial, now, set, false);
        return !trial.over && brokenIn(trial) == 0;
    }

    /** Asks for all goals that a goal asks for by itself. */
    private void askFor(int goal) {
        int relation = goal >> CODE_BITS + COLUMNS;
        int columns = goal >> CODE_BITS & (1 << COLUMNS) - 1;
        int code = goal & (1 << CODE_BITS) - 1;
        for (int rule = 0; rule < program.ruleCount; rule++) {
            Body body = program.rule(rule);
            boolean asks = !body.removed && body.target == relation;
            for (int place = 0; asks && place < body.count; place++) {
                if (body.isAtom(place)) {
                    walk.begin(body, present(), place);
                    asks = walk.pose(code, columns);
                    for (int i = 0; i < MOST_MOVES && asks && asked.count < MOST_GOALS && walk.next(); i++) {
                        asked.ask(walk.goal(place));
                    }
                }
            }
        }
    }

    private boolean isNeedless(Body body, int place) {
        int relation = body.subjectOf(place);
        boolean needless = false;
        for (int earlier = 0; earlier < place && schema.hasOpenKey(relation); earlier++) {
            needless = needless || body.formOf(earlier) == HOLDING && body.subjectOf(earlier) == relation
                    && body.areAlike(earlier, place, schema.keyOf(relation));
        }
        return needless;
    }

    private static int fewestOrders(int searches) {
        int fewest = SERVED.length;
        for (int set = 0; set < 1 << SERVED.length; set++) {
            int served = 0;
            for (int i = 0; i < SERVED.length; i++) {
                served |= (set >> i & 1) == 0 ? 0 : SERVED[i];
            }
            if ((searches & ~served) == 0) {
                fewest = Math.min(fewest, Integer.bitCount(set));
            }
        }
        return fewest;
    }

    /** The relations that are declared. */
    private static final class Schema {
        /** 0 for a relation that is not declared. */
        private final int[] columns = new int[RELATIONS];
        private final int[] kinds = new int[RELATIONS];
        private final int[] keys = new int[RELATIONS];
        /** The bits of a packed tuple in the columns that tell it from others of its relation. */
        private final int[] bits = new int[RELATIONS];

        private void note(int relation, int itsColumns, int itsKind, int itsKey) {
            if (relation >= 0 && relation < RELATIONS) {
                columns[relation] = itsColumns;
                kinds[relation] = itsKind;
                keys[relation] = itsKey;
                bits[relation] = itsKind == PLAIN ? -1 : ~(HIGHEST << shiftOf(itsColumns - 1));
            }
        }

        private boolean isDeclared(int relation) {
            return columnsOf(relation) > 0;
        }

        private int columnsOf(int relation) {
            return relation >= 0 && relation < RELATIONS ? columns[relation] : 0;
        }

        private int kindOf(int relation) {
            return relation >= 0 && relation < RELATIONS ? kinds[relation] : PLAIN;
        }

        private int keyOf(int relation) {
            return relation >= 0 && relation < RELATIONS ? keys[relation] : 0;
        }

        private int tellingBits(int relation) {
            return relation >= 0 && relation < RELATIONS ? bits[relation] : -1;
        }

        private boolean hasOpenKey(int relation) {
            return kindOf(relation) == PLAIN && keyOf(relation) < columnsOf(relation);
        }

        /** How many first columns tell one tuple of the model from another. */
        private int tellingColumns(int relation) {
            return kindOf(relation) == PLAIN ? columnsOf(relation) : keyOf(relation);
        }

        private int tellingSet(int relation) {
            return (1 << tellingColumns(relation)) - 1;
        }

        private boolean permits(int relation, int sort, int first, int second, int third) {
            boolean permitted = true;
            for (int column = 0; column < COLUMNS; column++) {
                int number = picked(column, first, second, third);
                permitted = permitted
                        && (column < columnsOf(relation) ? isPermitted(sort, number) : number == 0);
            }
            return permitted;
        }

        /** A goal as one number: its relation, the set of its columns with values, and these. */
        private int goalOf(int relation, int first, int second, int third) {
            int set = 0;
            int code = 0;
            for (int column = 0; column < tellingColumns(relation); column++) {
                int value = picked(column, first, second, third);
                if (value >= 0) {
                    set |= 1 << column;
                    code |= value << shiftOf(column);
                }
            }
            return (relation << COLUMNS | set) << CODE_BITS | code;
        }
    }

    /** The facts that have been told. */
    private static final class Facts {
        private int count;
        private int left;
        private final int[] relations = new int[MOST_FACTS];
        private final int[] codes = new int[MOST_FACTS];
        private final int[] costs = new int[MOST_FACTS];
        private final int[] froms = new int[MOST_FACTS];
        private final int[] tos = new int[MOST_FACTS];
        private final boolean[] dropped = new boolean[MOST_FACTS];

        private boolean isFact(int fact) {
            return fact >= 0 && fact < count && fact < MOST_FACTS;
        }

        private void append(int relation, int code, int cost, int from, int to) {
            int fact = count;
            if (fact >= 0 && fact < MOST_FACTS) {
                relations[fact] = relation;
                codes[fact] = code;
                costs[fact] = cost;
                froms[fact] = from;
                tos[fact] = to;
                dropped[fact] = false;
                count++;
                left++;
            }
        }

        private void takeBack() {
            count--;
            left--;
        }

        private void setDropped(int fact, boolean isNow) {
            if (isFact(fact) && dropped[fact] != isNow) {
                dropped[fact] = isNow;
                left += isNow ? -1 : 1;
            }
        }

        private boolean isDropped(int fact) {
            return isFact(fact) && dropped[fact];
        }

        private boolean holdsIn(int fact, int hour) {
            return isFact(fact) && !dropped[fact] && froms[fact] <= hour && hour <= tos[fact];
        }

        private int relationOf(int fact) {
            return isFact(fact) ? relations[fact] : NONE;
        }

        private int codeOf(int fact) {
            return isFact(fact) ? codes[fact] : 0;
        }

        private int costOf(int fact) {
            return isFact(fact) ? costs[fact] : MOST_COST;
        }

        private int fromOf(int fact) {
            return isFact(fact) ? froms[fact] : 0;
        }

        private int toOf(int fact) {
            return isFact(fact) ? tos[fact] : NONE;
        }
    }

    /** The literals of a rule, of a denial or of the draft, and its head if it has one. */
    private static final class Body {
        private int count;
        /** The relation of the head. */
        private int target = NONE;
        private boolean removed;
        private final int[] forms = new int[MOST_LITERALS];
        /** The relation of an atom, or how to compare. */
        private final int[] subjects = new int[MOST_LITERALS];
        private final int[] terms = new int[(MOST_LITERALS + 1) * COLUMNS];

        private void empty() {
            count = 0;
            setHead(NONE, 0, 0, 0);
        }

        private void setHead(int relation, int first, int second, int third) {
            target = relation;
            setTerms(HEAD, first, second, third);
        }

        private int push(int form, int subject, int first, int second, int third) {
            int place = count;
            if (place >= 0 && place < MOST_LITERALS) {
                forms[place] = form;
                subjects[place] = subject;
                setTerms(place, first, second, third);
                count++;
            }
            return count;
        }

        private void setTerms(int place, int first, int second, int third) {
            for (int column = 0; column < COLUMNS; column++) {
                int index = place * COLUMNS + column;
                if (index >= 0 && index < terms.length) {
                    terms[index] = picked(column, first, second, third);
                }
            }
        }

        private void copy(Body other) {
            empty();
            removed = false;
            for (int place = 0; place < other.count; place++) {
                push(other.formOf(place), other.subjectOf(place),
                        other.termOf(place, 0), other.termOf(place, 1), other.termOf(place, 2));
            }
            setHead(other.target, other.termOf(HEAD, 0), other.termOf(HEAD, 1), other.termOf(HEAD, 2));
        }

        private int formOf(int place) {
            return place >= 0 && place < MOST_LITERALS ? forms[place] : NONE;
        }

        private int subjectOf(int place) {
            return place >= 0 && place < MOST_LITERALS ? subjects[place] : NONE;
        }

        private int termOf(int place, int column) {
            int index = place * COLUMNS + column;
            return index >= 0 && index < terms.length ? terms[index] : 0;
        }

        private boolean isAtom(int place) {
            return formOf(place) == HOLDING || formOf(place) == LACKING;
        }

        private int holdingAtoms() {
            int atoms = 0;
            for (int place = 0; place < count; place++) {
                atoms += formOf(place) == HOLDING ? 1 : 0;
            }
            return atoms;
        }

        private int variablesFrom(int place, int from) {
            int set = 0;
            for (int column = from; column < COLUMNS; column++) {
                set |= variableBit(termOf(place, column));
            }
            return set;
        }

        /** The variables that the literals bind; NONE if one of them needs another one ahead. */
        private int boundVariables() {
            int bound = 0;
            for (int place = 0; place < count; place++) {
                int form = formOf(place);
                int needs = form == HOLDING ? 0 : variablesFrom(place, form == SUMMING ? 1 : 0);
                if ((needs & ~bound) != 0) {
                    return NONE;
                }
                bound |= variablesFrom(place, 0);
            }
            return bound;
        }

        private boolean isSafe() {
            int bound = boundVariables();
            return bound != NONE && (variablesFrom(HEAD, 0) & ~bound) == 0;
        }

        /** How often a term is there, in the head and in the literals. */
        private int mentions(int term) {
            int times = 0;
            for (int column = 0; column < COLUMNS; column++) {
                times += termOf(HEAD, column) == term ? 1 : 0;
                for (int place = 0; place < count; place++) {
                    times += termOf(place, column) == term ? 1 : 0;
                }
            }
            return times;
        }

        /** The first term of the sum that has this term as its second or third one; 0 without one. */
        private int sumOver(int term) {
            int sum = 0;
            for (int place = 0; place < count; place++) {
                if (formOf(place) == SUMMING && (termOf(place, 1) == term || termOf(place, 2) == term)) {
                    sum = termOf(place, 0);
                }
            }
            return sum;
        }

        private boolean areAlike(int place, int other, int columns) {
            boolean alike = true;
            for (int column = 0; column < columns; column++) {
                alike = alike && termOf(place, column) == termOf(other, column);
            }
            return alike;
        }

        /** The columns of an atom that are values or of these variables. */
        private int knownColumns(int place, int columns, int known) {
            int set = 0;
            for (int column = 0; column < columns; column++) {
                int term = termOf(place, column);
                set |= term >= 0 || (variableBit(term) & known) != 0 ? 1 << column : 0;
            }
            return set;
        }
    }

    /** The rules and denials, and the strata that the rules tell. */
    private static final class Program {
        private final Schema schema;
        private final Body nothing = new Body();
        private final Body[] rules = new Body[MOST_RULES];
        private final Body[] denials = new Body[MOST_DENIALS];
        private int ruleCount;
        private int denialCount;
        private final int[] levels = new int[RELATIONS];
        private int top;

        private Program(Schema itsSchema) {
            schema = itsSchema;
            for (int rule = 0; rule < rules.length; rule++) {
                rules[rule] = new Body();
            }
            for (int denial = 0; denial < denials.length; denial++) {
                denials[denial] = new Body();
            }
        }

        private boolean hasRule(int rule) {
            return rule >= 0 && rule < ruleCount;
        }

        private Body rule(int rule) {
            Body body = rule >= 0 && rule < rules.length ? rules[rule] : nothing;
            return body == null ? nothing : body;
        }

        private Body denial(int denial) {
            Body body = denial >= 0 && denial < denials.length ? denials[denial] : nothing;
            return body == null ? nothing : body;
        }

        private int rulesLeft() {
            int left = 0;
            for (int rule = 0; rule < ruleCount; rule++) {
                left += rule(rule).removed ? 0 : 1;
            }
            return left;
        }

        private void append(Body body) {
            rule(ruleCount).copy(body);
            ruleCount++;
        }

        private void takeBack() {
            ruleCount--;
            stratify();
        }

        private void appendDenial(Body body) {
            denial(denialCount).copy(body);
            denialCount++;
        }

        private int levelOf(int relation) {
            return relation >= 0 && relation < levels.length ? levels[relation] : NONE;
        }

        /** Finds the least strata; answers whether there are any. */
        private boolean stratify() {
            for (int relation = 0; relation < levels.length; relation++) {
                levels[relation] = 0;
            }
            top = 0;
            boolean raised = true;
            for (int i = 0; i < MOST_ROUNDS && raised && top < RELATIONS; i++) {
                raised = false;
                for (int rule = 0; rule < ruleCount; rule++) {
                    raised = raise(rule(rule)) || raised;
                }
            }
            return top < RELATIONS;
        }

        private boolean raise(Body body) {
            int target = body.target;
            boolean raised = false;
            for (int place = 0; place < body.count && !body.removed; place++) {
                if (body.isAtom(place) && target >= 0 && target < levels.length) {
                    int least = levelOf(body.subjectOf(place)) + (isAbove(body, place) ? 1 : 0);
                    if (levels[target] < least) {
                        levels[target] = least;
                        top = Math.max(top, least);
                        raised = true;
                    }
                }
            }
            return raised;
        }

        private boolean isAbove(Body body, int place) {
            return body.formOf(place) == LACKING
                    || schema.kindOf(body.subjectOf(place)) != PLAIN && !grows(body, place);
        }

        private boolean grows(Body body, int place) {
            int relation = body.subjectOf(place);
            int kind = schema.kindOf(relation);
            int term = body.termOf(place, schema.columnsOf(relation) - 1);
            int times = body.mentions(term);
            if (term >= 0 || times > 2) {
                return false;
            }
            boolean alike = schema.kindOf(body.target) == kind;
            int last = body.termOf(HEAD, schema.columnsOf(body.target) - 1);
            int sum = kind == UNION ? 0 : body.sumOver(term);
            return times == 1 || alike && last == term
                    || alike && sum < 0 && last == sum && body.mentions(sum) == 2;
        }
    }

    /** The tuples of an hour: of each relation a chain of slots, by rising tuples. */
    private static final class Model {
        private final Schema schema;
        private int count;
        /** More tuples were given than it may have. */
        private boolean over;
        private final int[] firsts = new int[RELATIONS];
        private final int[] nexts = new int[MOST_TUPLES];
        private final int[] codes = new int[MOST_TUPLES];
        /** The round in which the tuple came or changed last. */
        private final int[] rounds = new int[MOST_TUPLES];

        private Model(Schema itsSchema) {
            schema = itsSchema;
            for (int relation = 0; relation < RELATIONS; relation++) {
                firsts[relation] = NONE;
            }
        }

        private void reset() {
            count = 0;
            over = false;
            for (int relation = 0; relation < RELATIONS; relation++) {
                firsts[relation] = NONE;
            }
        }

        private int firstOf(int relation) {
            return relation >= 0 && relation < RELATIONS ? firsts[relation] : NONE;
        }

        private int nextOf(int slot) {
            return slot >= 0 && slot < MOST_TUPLES ? nexts[slot] : NONE;
        }

        private int codeOf(int slot) {
            return slot >= 0 && slot < MOST_TUPLES ? codes[slot] : NONE;
        }

        private int roundOf(int slot) {
            return slot >= 0 && slot < MOST_TUPLES ? rounds[slot] : NONE;
        }

        private int tuplesOf(int relation) {
            int slot = firstOf(relation);
            int tuples = 0;
            for (int i = 0; i < MOST_TUPLES && slot != NONE; i++) {
                tuples++;
                slot = nextOf(slot);
            }
            return tuples;
        }

        private int slotAt(int relation, int place) {
            int slot = place < 0 || place >= MOST_TUPLES ? NONE : firstOf(relation);
            for (int i = 0; i < place && i < MOST_TUPLES && slot != NONE; i++) {
                slot = nextOf(slot);
            }
            return slot;
        }

        /** The last slot of a relation whose tuple is below one, in the columns that tell it; or NONE. */
        private int slotBelow(int relation, int code) {
            int bits = schema.tellingBits(relation);
            int below = NONE;
            int slot = firstOf(relation);
            for (int i = 0; i < MOST_TUPLES && slot >= 0 && slot < MOST_TUPLES; i++) {
                boolean isBelow = (codes[slot] & bits) < (code & bits);
                below = isBelow ? slot : below;
                slot = isBelow ? nexts[slot] : NONE;
            }
            return below;
        }

        /** The slot of the tuple that is the same in the columns that tell it; or NONE. */
        private int slotLike(int relation, int code) {
            int bits = schema.tellingBits(relation);
            int slot = firstOf(relation);
            for (int i = 0; i < MOST_TUPLES && slot >= 0 && slot < MOST_TUPLES; i++) {
                int rest = (codes[slot] & bits) - (code & bits);
                if (rest >= 0) {
                    return rest == 0 ? slot : NONE;
                }
                slot = nexts[slot];
            }
            return NONE;
        }

        private boolean has(int relation, int code) {
            int slot = slotLike(relation, code);
            return slot != NONE && codeOf(slot) == code;
        }

        /** Takes a tuple in; answers whether that changes the model. */
        private boolean take(int relation, int code, int round) {
            int slot = slotLike(relation, code);
            if (slot == NONE) {
                return insert(relation, code, round);
            }
            int merged = merged(relation, codeOf(slot), code);
            if (merged == codeOf(slot) || slot < 0 || slot >= MOST_TUPLES) {
                return false;
            }
            codes[slot] = merged;
            rounds[slot] = round;
            return true;
        }

        private boolean insert(int relation, int code, int round) {
            int slot = count;
            if (slot < 0 || slot >= MOST_TUPLES || relation < 0 || relation >= RELATIONS) {
                over = true;
                return false;
            }
            int below = slotBelow(relation, code);
            codes[slot] = code;
            rounds[slot] = round;
            if (below >= 0 && below < MOST_TUPLES) {
                nexts[slot] = nexts[below];
                nexts[below] = slot;
            } else {
                nexts[slot] = firsts[relation];
                firsts[relation] = slot;
            }
            count++;
            return true;
        }

        /** What two tuples with one key make, of which the relation has one only. */
        private int merged(int relation, int code, int other) {
            int kind = schema.kindOf(relation);
            if (kind == LEAST) {
                return Math.min(code, other);
            }
            return kind == GREATEST ? Math.max(code, other) : code | other;
        }

        private boolean breaksKey(int relation) {
            int shift = shiftOf(schema.keyOf(relation) - 1);
            int slot = firstOf(relation);
            boolean breaks = false;
            for (int i = 0; i < MOST_TUPLES && slot != NONE && !breaks; i++) {
                int after = nextOf(slot);
                breaks = after != NONE && codeOf(after) >> shift == codeOf(slot) >> shift;
                slot = after;
            }
            return breaks;
        }
    }

    /** A walk over the assignments by which the first literals of a body hold in a model. */
    private static final class Walk {
        private final Schema schema;
        private Body body;
        private Model model;
        private int end;
        private int depth;
        /** The literal at this depth is come to from ahead, not from behind. */
        private boolean fresh;
        /** The place of the atom that is gone through first, and the round of its tuples. */
        private int lead;
        private int leadRound;
        /** NONE for a variable that is not bound. */
        private final int[] values = new int[VARIABLES];
        private final int[] slots = new int[MOST_LITERALS];
        /** For each literal the variables that it has bound. */
        private final int[] bound = new int[MOST_LITERALS];

        private Walk(Schema itsSchema, Body someBody, Model someModel) {
            schema = itsSchema;
            body = someBody;
            model = someModel;
            lead = NONE;
            depth = NONE;
        }

        private void begin(Body itsBody, Model itsModel, int itsEnd) {
            body = itsBody;
            model = itsModel;
            end = itsEnd;
            depth = 0;
            fresh = true;
            lead = NONE;
            unbind(-1);
        }

        /** Asks for the assignments alone by which this atom, and none ahead of it, has a tuple of the round. */
        private void leadBy(int place, int round) {
            lead = place;
            leadRound = round;
        }

        /** Gives the variables of the head the values of a tuple in some columns, if that can be. */
        private boolean pose(int code, int columns) {
            boolean can = true;
            for (int column = 0; column < COLUMNS; column++) {
                if ((columns >> column & 1) != 0) {
                    int term = body.termOf(HEAD, column);
                    bindIfFree(term, columnOf(code, column));
                    can = can && valueOf(term) == columnOf(code, column);
                }
            }
            return can;
        }

        /** Goes to the next assignment, of the literals in their order. */
        private boolean next() {
            if (end == 0 && depth == 0 && fresh) {
                fresh = false;
                return true;
            }
            for (int i = 0; i < MOST_MOVES && depth >= 0; i++) {
                int place = placeAt(depth);
                boolean ahead = depth < end
                        && (body.formOf(place) == HOLDING ? takesTuple(place) : passes(place));
                depth += ahead ? 1 : -1;
                fresh = ahead;
                if (ahead && depth == end) {
                    return true;
                }
            }
            return false;
        }

        private int placeAt(int itsDepth) {
            if (lead == NONE || itsDepth > lead) {
                return itsDepth;
            }
            return itsDepth == 0 ? lead : itsDepth - 1;
        }

        private boolean takesTuple(int place) {
            int relation = body.subjectOf(place);
            if (place < 0 || place >= MOST_LITERALS) {
                return false;
            }
            int slot = fresh ? model.firstOf(relation) : model.nextOf(slots[place]);
            if (!fresh) {
                unbind(bound[place]);
            }
            int columns = schema.columnsOf(relation);
            for (int i = 0; i < MOST_TUPLES && slot != NONE; i++) {
                if (isTimely(place, slot) && fits(place, columns, model.codeOf(slot))) {
                    slots[place] = slot;
                    return true;
                }
                slot = model.nextOf(slot);
            }
            return false;
        }

        private boolean isTimely(int place, int slot) {
            if (lead == NONE || place > lead) {
                return true;
            }
            int round = model.roundOf(slot);
            return place == lead ? round == leadRound : round < leadRound;
        }

        private boolean fits(int place, int columns, int code) {
            int mine = 0;
            for (int column = 0; column < columns; column++) {
                int term = body.termOf(place, column);
                int value = columnOf(code, column);
                int had = valueOf(term);
                if (had == NONE) {
                    bindIfFree(term, value);
                    mine |= variableBit(term);
                } else if (had != value) {
                    unbind(mine);
                    return false;
                }
            }
            noteBound(place, mine);
            return true;
        }

        /** Whether a literal holds that no tuple is taken for; it is asked once, its sum is bound then. */
        private boolean passes(int place) {
            if (!fresh) {
                unbind(boundAt(place));
                return false;
            }
            noteBound(place, 0);
            int form = body.formOf(place);
            if (form == LACKING) {
                int slot = model.slotLike(body.subjectOf(place), tuple(place));
                return slot == NONE || model.codeOf(slot) != tuple(place);
            }
            int term = body.termOf(place, 0);
            int first = valueOf(term);
            int second = valueOf(body.termOf(place, 1));
            if (form == COMPARING) {
                return isSo(body.subjectOf(place), first, second);
            }
            int sum = Math.min(HIGHEST, second + valueOf(body.termOf(place, 2)));
            if (first == NONE) {
                bindIfFree(term, sum);
                noteBound(place, variableBit(term));
            }
            return first == NONE || first == sum;
        }

        private static boolean isSo(int how, int first, int second) {
            if (how == SAME || how == OTHER) {
                return (first == second) == (how == SAME);
            }
            return how == LESS ? first < second : first <= second;
        }

        private int valueOf(int term) {
            int variable = -1 - term;
            return variable >= 0 && variable < values.length ? values[variable] : term;
        }

        private void bindIfFree(int term, int value) {
            int variable = -1 - term;
            if (variable >= 0 && variable < values.length && values[variable] == NONE) {
                values[variable] = value;
            }
        }

        private void unbind(int set) {
            for (int variable = 0; variable < values.length && set != 0; variable++) {
                if ((set >> variable & 1) != 0) {
                    values[variable] = NONE;
                }
            }
        }

        private void noteBound(int place, int set) {
            if (place >= 0 && place < bound.length) {
                bound[place] = set;
            }
        }

        private int boundAt(int place) {
            return place >= 0 && place < bound.length ? bound[place] : 0;
        }

        /** The tuple of an atom or of the head; a variable that is not bound counts 0 there. */
        private int tuple(int place) {
            return packed(Math.max(0, valueOf(body.termOf(place, 0))),
                    Math.max(0, valueOf(body.termOf(place, 1))), Math.max(0, valueOf(body.termOf(place, 2))));
        }

        private int goal(int place) {
            return schema.goalOf(body.subjectOf(place), valueOf(body.termOf(place, 0)),
                    valueOf(body.termOf(place, 1)), valueOf(body.termOf(place, 2)));
        }

        private int cost(Costs costs) {
            int cost = 1;
            for (int place = 0; place < body.count && place < slots.length; place++) {
                cost += body.formOf(place) == HOLDING ? costs.costOf(slots[place]) : 0;
            }
            return cost;
        }
    }

    /** Finds models, stratum by stratum and round by round. */
    private static final class Mill {
        private final Facts facts;
        private final Program program;
        private final Walk walk;

        private Mill(Facts itsFacts, Program itsProgram, Walk itsWalk) {
            facts = itsFacts;
            program = itsProgram;
            walk = itsWalk;
        }

        /** Makes the model of an hour without some facts; anew: each round goes through all tuples. */
        private void build(Model model, int hour, int without, boolean anew) {
            model.reset();
            int round = 0;
            for (int level = 0; level <= program.top && level < RELATIONS; level++) {
                load(model, level, hour, without);
                round++;
                boolean changed = sweep(model, level, round, true);
                for (int i = 0; i < MOST_ROUNDS && changed && !model.over; i++) {
                    round++;
                    changed = sweep(model, level, round, anew);
                }
            }
        }

        private void load(Model model, int level, int hour, int without) {
            for (int fact = 0; fact < facts.count; fact++) {
                int relation = facts.relationOf(fact);
                if (facts.holdsIn(fact, hour) && (without >> fact & 1) == 0
                        && program.levelOf(relation) == level) {
                    model.take(relation, facts.codeOf(fact), 0);
                }
            }
        }

        /** Goes once through the rules of a stratum, with all tuples or with those of the round before. */
        private boolean sweep(Model model, int level, int round, boolean whole) {
            boolean changed = false;
            for (int rule = 0; rule < program.ruleCount; rule++) {
                Body body = program.rule(rule);
                boolean runs = !body.removed && program.levelOf(body.target) == level;
                int leads = whole ? 1 : body.count;
                for (int place = 0; place < leads && runs && !model.over; place++) {
                    if (whole || isLead(body, place, level)) {
                        walk.begin(body, model, body.count);
                        walk.leadBy(whole ? NONE : place, round - 1);
                        for (int i = 0; i < MOST_MOVES && !model.over && walk.next(); i++) {
                            changed = model.take(body.target, walk.tuple(HEAD), round) || changed;
                        }
                    }
                }
            }
            return changed;
        }

        private boolean isLead(Body body, int place, int level) {
            return body.formOf(place) == HOLDING && program.levelOf(body.subjectOf(place)) == level;
        }
    }

    /** The least costs of the tuples of the model of now, by their slots. */
    private static final class Costs {
        private boolean known;
        private final int[] costs = new int[MOST_TUPLES];

        private void reset() {
            for (int slot = 0; slot < costs.length; slot++) {
                costs[slot] = MOST_COST;
            }
        }

        private int costOf(int slot) {
            return slot >= 0 && slot < costs.length ? costs[slot] : MOST_COST;
        }

        private boolean lower(int slot, int cost) {
            if (slot < 0 || slot >= costs.length || costs[slot] <= cost) {
                return false;
            }
            costs[slot] = cost;
            return true;
        }
    }

    /** The goals that are asked for, each once. */
    private static final class Goals {
        private int count;
        private final int[] rows = new int[MOST_GOALS];
        /** Where a goal is, 1 more than its place in the row; 0 for nothing. */
        private final int[] table = new int[1 << TABLE_BITS];

        private void empty() {
            count = 0;
            for (int i = 0; i < table.length; i++) {
                table[i] = 0;
            }
        }

        private int goalAt(int place) {
            return place >= 0 && place < rows.length ? rows[place] : 0;
        }

        private void ask(int goal) {
            int start = goal * SCATTER >>> 32 - TABLE_BITS;
            for (int i = 0; i < table.length && count < rows.length; i++) {
                int index = start + i & table.length - 1;
                if (index >= 0 && index < table.length && table[index] == 0) {
                    rows[count] = goal;
                    count++;
                    table[index] = count;
                    return;
                }
                if (index >= 0 && index < table.length && goalAt(table[index] - 1) == goal) {
                    return;
                }
            }
        }
    }

    /** The plan of a rule: its atoms that are to hold, and the columns by which they search. */
    private static final class Plan {
        private int count;
        private final int[] places = new int[MOST_HOLDING];
        private final int[] searches = new int[MOST_HOLDING];

        private void make(Body body, Schema schema) {
            count = 0;
            int known = 0;
            int taken = 0;
            for (int turn = 0; turn < MOST_HOLDING; turn++) {
                int best = NONE;
                int search = 0;
                for (int place = 0; place < body.count; place++) {
                    int columns = schema.columnsOf(body.subjectOf(place));
                    int set = body.knownColumns(place, columns, known);
                    boolean more = best == NONE || Integer.bitCount(set) > Integer.bitCount(search);
                    if (body.formOf(place) == HOLDING && (taken >> place & 1) == 0 && more) {
                        best = place;
                        search = set;
                    }
                }
                if (best != NONE) {
                    places[turn] = best;
                    searches[turn] = search;
                    count++;
                    taken |= 1 << best;
                    known |= body.variablesFrom(best, 0);
                }
            }
        }

        private int placeAt(int turn) {
            return turn >= 0 && turn < count && turn < places.length ? places[turn] : NONE;
        }

        /** The sets of columns by which a relation is searched, as bits; a search by none needs nothing. */
        private int searchesOf(Body body, int relation) {
            int sets = 0;
            for (int turn = 0; turn < count && turn < searches.length; turn++) {
                if (body.subjectOf(placeAt(turn)) == relation) {
                    sets |= 1 << searches[turn];
                }
            }
            return sets & ~1;
        }
    }
}
