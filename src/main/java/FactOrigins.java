import java.util.Arrays;

/**
 * A small rule engine that knows where facts come from. Base facts and rules with negation give a model; each
 * fact of the model has a least derivation, a greatest likelihood and the base facts that it needs.
 *
 * <p>A ground atom (a predicate with its constants) is held as one number, its atom number. Everything that is
 * computed from the base facts and the rules is kept until one of them changes.
 */
public final class FactOrigins {
    public static final int BAD_INDEX = -1;
    public static final int BAD_VALUE = -2;
    public static final int NOT_POSSIBLE = -3;
    public static final int FULL = -4;
    public static final int NONE = -5;
    public static final int NO_MODEL = -6;

    private static final int PREDICATES = 6;
    private static final int MOST_CONSTANTS = 6;
    private static final int CONSTANTS_AT_FIRST = 4;
    private static final int VARIABLES = 3;
    private static final int MOST_PLACES = 2;
    private static final int ATOMS_OF_PREDICATE = MOST_CONSTANTS * MOST_CONSTANTS;
    private static final int ATOMS = PREDICATES * ATOMS_OF_PREDICATE;
    private static final int MOST_FACTS = 12;
    private static final int MOST_FACT_COST = 99;
    private static final int SIXTEENTHS = 16;
    private static final int MOST_RULES = 8;
    private static final int MOST_RULE_COST = 9;
    private static final int MOST_LITERALS = 3;
    private static final int MOST_INSTANCES = MOST_RULES * MOST_CONSTANTS * MOST_CONSTANTS * MOST_CONSTANTS;
    private static final int MOST_LETTERS = 60;
    private static final int LAST_LETTER = 127;
    private static final int SLOTS = 2;

    /** The round of an atom that is not in the model. */
    private static final int ABSENT = -1;
    /** Stands for a base fact or an instance that there is not. */
    private static final int NOTHING = -1;
    /** The cost that stands for all costs above 1000000. */
    private static final int TOO_DEAR = 1000001;
    private static final int NO_RULE = 8;

    /**
     * Bound of all repeated passes over the model: a best derivation repeats no fact on a path, so it is at most
     * ATOMS levels high, and each pass settles a level.
     */
    private static final int MOST_PASSES = ATOMS + 2;

    /** How many sets of one, two or three of 12 base facts there are, and the longs that have a bit for each. */
    private static final int SMALL_SETS = 298;
    private static final int WORDS = 5;
    private static final int WORD_BITS = 64;

    private static final int MANTISSA_BITS = 23;
    private static final int MANTISSA_UNITS = 1 << MANTISSA_BITS;
    private static final int EXPONENT_OF_ONE = 127;

    private final Program program = new Program();
    private final Program[] slots = new Program[SLOTS];
    private final boolean[] slotFilled = new boolean[SLOTS];
    private final RuleText text = new RuleText();

    private final Grounding grounding = new Grounding();
    private final Model model = new Model();
    private final Holding holding = new Holding();
    private final Costs costs = new Costs();
    private final Likelihoods likelihoods = new Likelihoods();
    private final Survivals survivals = new Survivals();
    private final Model lesserModel = new Model();

    private boolean groundingFresh;
    private boolean modelFresh;
    private boolean costsFresh;
    private boolean likelihoodsFresh;
    private boolean survivalsFresh;
    /** The set of base facts that the lesser model lacks, or NOTHING if that model is out of date. */
    private int lesserWithout = NOTHING;

    public FactOrigins() {
        for (int slot = 0; slot < SLOTS; slot++) {
            slots[slot] = new Program();
        }
    }

    // ---- facts and rules

    public int begin(int constants) {
        if (constants < 1 || constants > MOST_CONSTANTS) {
            return BAD_VALUE;
        }
        int previous = program.constants;
        program.clear(constants);
        rulesChanged();
        return previous;
    }

    public int setPlaces(int predicate, int places) {
        if (!isPredicate(predicate)) {
            return BAD_INDEX;
        }
        if (places < 1 || places > MOST_PLACES) {
            return BAD_VALUE;
        }
        if (program.uses(predicate)) {
            return NOT_POSSIBLE;
        }
        int previous = program.places[predicate];
        program.places[predicate] = places;
        return previous;
    }

    public int addFact(int predicate, int first, int second, int cost, int sixteenths) {
        if (!program.hasAtom(predicate, first, second)) {
            return BAD_INDEX;
        }
        if (cost < 0 || cost > MOST_FACT_COST || sixteenths < 1 || sixteenths > SIXTEENTHS) {
            return BAD_VALUE;
        }
        if (program.factCount >= MOST_FACTS) {
            return FULL;
        }
        int number = program.enterFact(atomNumber(predicate, first, second), cost, sixteenths);
        factsChanged();
        return number;
    }

    public int removeFact(int fact) {
        if (fact < 0 || fact >= program.factCount) {
            return BAD_INDEX;
        }
        program.dropFact(fact);
        factsChanged();
        return program.factCount;
    }

    public int facts() {
        return program.factCount;
    }

    public int removeRule(int rule) {
        if (rule < 0 || rule >= program.ruleCount) {
            return BAD_INDEX;
        }
        program.dropRule(rule);
        rulesChanged();
        return program.ruleCount;
    }

    public int rules() {
        return program.ruleCount;
    }

    // ---- text

    public int append(int letter) {
        if (letter < 0 || letter > LAST_LETTER) {
            return BAD_VALUE;
        }
        if (text.length >= MOST_LETTERS) {
            return FULL;
        }
        text.put(letter);
        return text.length;
    }

    public int clearText() {
        int previous = text.length;
        text.length = 0;
        return previous;
    }

    public int faultPosition() {
        return text.findFault(program);
    }

    public int addRule(int cost) {
        if (cost < 1 || cost > MOST_RULE_COST) {
            return BAD_VALUE;
        }
        if (text.findFault(program) != NONE) {
            return NOT_POSSIBLE;
        }
        if (program.ruleCount >= MOST_RULES) {
            return FULL;
        }
        int number = program.enterRule(text.rule, cost);
        rulesChanged();
        return number;
    }

    // ---- the model

    public int stratum(int predicate) {
        if (!isPredicate(predicate)) {
            return BAD_INDEX;
        }
        if (!hasModel()) {
            return NO_MODEL;
        }
        return grounding.stratumOf[predicate];
    }

    public int size() {
        if (!hasModel()) {
            return NO_MODEL;
        }
        return model.atoms;
    }

    public int count(int predicate) {
        if (!isPredicate(predicate)) {
            return BAD_INDEX;
        }
        if (!hasModel()) {
            return NO_MODEL;
        }
        return model.atomsOf(predicate);
    }

    public int rounds() {
        if (!hasModel()) {
            return NO_MODEL;
        }
        return model.lastRound;
    }

    public int round(int predicate, int first, int second) {
        int atom = atomOfModel(predicate, first, second);
        return atom < 0 ? atom : model.roundOf[atom];
    }

    public int instances(int predicate, int first, int second) {
        if (!program.hasAtom(predicate, first, second)) {
            return BAD_INDEX;
        }
        if (!hasModel()) {
            return NO_MODEL;
        }
        return holding.ofHead[atomNumber(predicate, first, second)];
    }

    // ---- provenance

    public int cost(int predicate, int first, int second) {
        int atom = atomOfModel(predicate, first, second);
        if (atom < 0) {
            return atom;
        }
        computeCosts();
        return costs.costOf[atom];
    }

    public int likelihood(int predicate, int first, int second) {
        int atom = atomOfModel(predicate, first, second);
        if (atom < 0) {
            return atom;
        }
        computeLikelihoods();
        return floatBits(likelihoods.likelihoodOf[atom]);
    }

    public int least(int predicate, int first, int second, int what) {
        if (!program.hasAtom(predicate, first, second)) {
            return BAD_INDEX;
        }
        if (what < 0 || what > 2) {
            return BAD_VALUE;
        }
        int atom = atomOfModel(predicate, first, second);
        if (atom < 0) {
            return atom;
        }
        computeCosts();
        return leastOf(atom, what);
    }

    public int needs(int predicate, int first, int second) {
        int atom = atomOfModel(predicate, first, second);
        if (atom < 0) {
            return atom;
        }
        computeSurvivals();
        return survivals.neededBy(atom);
    }

    public int cut(int predicate, int first, int second) {
        int atom = atomOfModel(predicate, first, second);
        if (atom < 0) {
            return atom;
        }
        computeSurvivals();
        return survivals.firstCut(atom);
    }

    // ---- deletions

    public int sizeWithout(int without) {
        if (without < 0) {
            return BAD_VALUE;
        }
        if (!hasModel()) {
            return NO_MODEL;
        }
        buildLesserModel(without);
        return lesserModel.atoms;
    }

    public int holdsWithout(int without, int predicate, int first, int second) {
        if (!program.hasAtom(predicate, first, second)) {
            return BAD_INDEX;
        }
        if (without < 0) {
            return BAD_VALUE;
        }
        if (!hasModel()) {
            return NO_MODEL;
        }
        buildLesserModel(without);
        return lesserModel.roundOf[atomNumber(predicate, first, second)] == ABSENT ? 0 : 1;
    }

    // ---- slots, checksum

    public int save(int slot) {
        if (slot < 0 || slot >= SLOTS) {
            return BAD_INDEX;
        }
        slots[slot].become(program);
        slotFilled[slot] = true;
        return program.ruleCount;
    }

    public int restore(int slot) {
        if (slot < 0 || slot >= SLOTS) {
            return BAD_INDEX;
        }
        if (!slotFilled[slot]) {
            return NOT_POSSIBLE;
        }
        program.become(slots[slot]);
        rulesChanged();
        return program.ruleCount;
    }

    public long checksum() {
        long h = 89;
        h = 31 * h + program.constants;
        h = 31 * h + program.factCount;
        h = 31 * h + program.ruleCount;
        h = 31 * h + size();
        if (!hasModel()) {
            return h;
        }
        h = 31 * h + model.lastRound;
        for (int predicate = 0; predicate < PREDICATES; predicate++) {
            h = 31 * h + grounding.stratumOf[predicate];
        }
        computeCosts();
        computeLikelihoods();
        for (int atom = 0; atom < ATOMS; atom++) {
            if (model.roundOf[atom] != ABSENT) {
                h = withAtom(h, atom);
            }
        }
        return h;
    }

    // ---- what the methods of the face share

    private static boolean isPredicate(int predicate) {
        return predicate >= 0 && predicate < PREDICATES;
    }

    /** Atom numbers ascend in the order of predicates, then of first constants, then of second ones. */
    private static int atomNumber(int predicate, int first, int second) {
        return predicate * ATOMS_OF_PREDICATE + first * MOST_CONSTANTS + second;
    }

    /** Returns the atom number of a fact of the model, or the answer that is due if there is no such fact. */
    private int atomOfModel(int predicate, int first, int second) {
        if (!program.hasAtom(predicate, first, second)) {
            return BAD_INDEX;
        }
        if (!hasModel()) {
            return NO_MODEL;
        }
        int atom = atomNumber(predicate, first, second);
        return model.roundOf[atom] == ABSENT ? NONE : atom;
    }

    private int leastOf(int atom, int what) {
        if (costs.costOf[atom] >= TOO_DEAR) {
            return NONE;
        }
        if (what == 0) {
            return costs.ruleOf[atom];
        }
        return what == 1 ? costs.nodesOf[atom] : costs.basesOf[atom];
    }

    private long withAtom(long before, int atom) {
        long h = before;
        h = 31 * h + model.roundOf[atom];
        h = 31 * h + holding.ofHead[atom];
        h = 31 * h + costs.costOf[atom];
        h = 31 * h + floatBits(likelihoods.likelihoodOf[atom]);
        for (int what = 0; what <= 2; what++) {
            h = 31 * h + leastOf(atom, what);
        }
        return h;
    }

    private void rulesChanged() {
        groundingFresh = false;
        factsChanged();
    }

    private void factsChanged() {
        modelFresh = false;
        costsFresh = false;
        likelihoodsFresh = false;
        survivalsFresh = false;
        lesserWithout = NOTHING;
    }

    /** Tells whether the rules are stratified, and if they are, makes the model if it is out of date. */
    private boolean hasModel() {
        if (!groundingFresh) {
            grounding.fill(program);
            groundingFresh = true;
        }
        if (!grounding.stratified) {
            return false;
        }
        if (!modelFresh) {
            model.build(program, grounding, 0);
            holding.collect(grounding, model);
            modelFresh = true;
        }
        return true;
    }

    private void computeCosts() {
        if (!costsFresh) {
            costs.compute(program, grounding, holding);
            costsFresh = true;
        }
    }

    private void computeLikelihoods() {
        if (!likelihoodsFresh) {
            likelihoods.compute(program, grounding, holding);
            likelihoodsFresh = true;
        }
    }

    private void computeSurvivals() {
        if (!survivalsFresh) {
            survivals.compute(program, grounding, holding);
            survivalsFresh = true;
        }
    }

    private void buildLesserModel(int without) {
        int existing = without & ((1 << program.factCount) - 1);
        if (lesserWithout != existing) {
            lesserModel.build(program, grounding, existing);
            lesserWithout = existing;
        }
    }

    /** The bits of a float from 0 to 1, found by arithmetic, as the library's own function is not allowed. */
    private static int floatBits(float value) {
        if (!(value > 0f)) {
            return 0;
        }
        float scaled = value;
        int exponent = EXPONENT_OF_ONE;
        for (int step = 1; scaled < 1f && step < EXPONENT_OF_ONE; step++) {
            scaled = scaled * 2f;
            exponent--;
        }
        if (scaled < 1f) {
            // A subnormal number: its exponent field is 0 and no leading one is left out.
            return (int) (scaled * MANTISSA_UNITS);
        }
        return (exponent << MANTISSA_BITS) | (int) ((scaled - 1f) * MANTISSA_UNITS);
    }

    /** A rule. Index 0 of the rows is the head, indexes from 1 on are the literals of the body. */
    private static final class Rule {
        /** Terms below this number are constants, X, Y and Z are the three from it on. */
        static final int FIRST_VARIABLE = MOST_CONSTANTS;

        final int[] predicate = new int[1 + MOST_LITERALS];
        final int[] first = new int[1 + MOST_LITERALS];
        final int[] second = new int[1 + MOST_LITERALS];
        final boolean[] negated = new boolean[1 + MOST_LITERALS];
        int literals;
        int price;

        void become(Rule other) {
            for (int k = 0; k <= MOST_LITERALS; k++) {
                predicate[k] = other.predicate[k];
                first[k] = other.first[k];
                second[k] = other.second[k];
                negated[k] = other.negated[k];
            }
            literals = other.literals;
            price = other.price;
        }

        boolean mentions(int wanted) {
            for (int k = 0; k <= literals; k++) {
                if (predicate[k] == wanted) {
                    return true;
                }
            }
            return false;
        }

        /** Each variable of a rule occurs in a literal that is not negated, so it is enough to look at these. */
        boolean hasVariable(int variable) {
            int term = FIRST_VARIABLE + variable;
            for (int k = 1; k <= literals; k++) {
                if (!negated[k] && (first[k] == term || second[k] == term)) {
                    return true;
                }
            }
            return false;
        }
    }

    /** What a slot keeps: n, the places of the predicates, the base facts and the rules. */
    private static final class Program {
        int constants = CONSTANTS_AT_FIRST;
        final int[] places = new int[PREDICATES];
        int factCount;
        final int[] factAtom = new int[MOST_FACTS];
        final int[] factCost = new int[MOST_FACTS];
        final int[] factSixteenths = new int[MOST_FACTS];
        int ruleCount;
        final Rule[] ruleList = new Rule[MOST_RULES];

        Program() {
            Arrays.fill(places, MOST_PLACES);
            for (int r = 0; r < MOST_RULES; r++) {
                ruleList[r] = new Rule();
            }
        }

        void clear(int newConstants) {
            constants = newConstants;
            Arrays.fill(places, MOST_PLACES);
            factCount = 0;
            ruleCount = 0;
        }

        void become(Program other) {
            constants = other.constants;
            System.arraycopy(other.places, 0, places, 0, PREDICATES);
            factCount = other.factCount;
            System.arraycopy(other.factAtom, 0, factAtom, 0, MOST_FACTS);
            System.arraycopy(other.factCost, 0, factCost, 0, MOST_FACTS);
            System.arraycopy(other.factSixteenths, 0, factSixteenths, 0, MOST_FACTS);
            ruleCount = other.ruleCount;
            for (int r = 0; r < MOST_RULES; r++) {
                ruleList[r].become(other.ruleList[r]);
            }
        }

        boolean hasAtom(int predicate, int first, int second) {
            if (!isPredicate(predicate) || first < 0 || first >= constants || second < 0) {
                return false;
            }
            return places[predicate] == 1 ? second == 0 : second < constants;
        }

        boolean uses(int predicate) {
            for (int i = 0; i < factCount; i++) {
                if (factAtom[i] / ATOMS_OF_PREDICATE == predicate) {
                    return true;
                }
            }
            for (int r = 0; r < ruleCount; r++) {
                if (ruleList[r].mentions(predicate)) {
                    return true;
                }
            }
            return false;
        }

        int enterFact(int atom, int factPrice, int sixteenths) {
            int number = factCount;
            factAtom[number] = atom;
            factCost[number] = factPrice;
            factSixteenths[number] = sixteenths;
            factCount++;
            return number;
        }

        void dropFact(int number) {
            for (int i = number; i + 1 < factCount; i++) {
                factAtom[i] = factAtom[i + 1];
                factCost[i] = factCost[i + 1];
                factSixteenths[i] = factSixteenths[i + 1];
            }
            factCount--;
        }

        int enterRule(Rule rule, int price) {
            int number = ruleCount;
            ruleList[number].become(rule);
            ruleList[number].price = price;
            ruleCount++;
            return number;
        }

        void dropRule(int number) {
            for (int r = number; r + 1 < ruleCount; r++) {
                ruleList[r].become(ruleList[r + 1]);
            }
            ruleCount--;
        }
    }

    /** The text, and the reading of a rule from it. A reading that fails stops at the fault. */
    private static final class RuleText {
        final int[] letters = new int[MOST_LETTERS];
        int length;
        /** The rule that was read last; it is whole only if no fault was found. */
        final Rule rule = new Rule();
        private int at;

        void put(int letter) {
            letters[length] = letter;
            length++;
        }

        int findFault(Program program) {
            at = 0;
            return readRule(program) ? unboundVariable() : at;
        }

        private boolean readRule(Program program) {
            if (!readAtom(program, 0) || !take('<')) {
                return false;
            }
            boolean more = true;
            for (int k = 1; more && k <= MOST_LITERALS; k++) {
                rule.negated[k] = take('!');
                if (!readAtom(program, k)) {
                    return false;
                }
                rule.literals = k;
                more = k < MOST_LITERALS && take(',');
            }
            return at == length;
        }

        private boolean readAtom(Program program, int k) {
            int predicate = next() - 'p';
            if (!isPredicate(predicate)) {
                return false;
            }
            at++;
            if (!take('(') || !isTerm(next(), program.constants)) {
                return false;
            }
            rule.predicate[k] = predicate;
            rule.first[k] = takeTerm();
            rule.second[k] = 0;
            if (program.places[predicate] == 2) {
                if (!take(',') || !isTerm(next(), program.constants)) {
                    return false;
                }
                rule.second[k] = takeTerm();
            }
            return take(')');
        }

        private static boolean isTerm(int letter, int constants) {
            return (letter >= '0' && letter < '0' + constants) || isVariable(letter);
        }

        private static boolean isVariable(int letter) {
            return letter >= 'X' && letter <= 'Z';
        }

        private int takeTerm() {
            int letter = next();
            at++;
            return isVariable(letter) ? Rule.FIRST_VARIABLE + letter - 'X' : letter - '0';
        }

        private boolean take(int wanted) {
            if (next() != wanted) {
                return false;
            }
            at++;
            return true;
        }

        /** The letter that comes next, or one that fits nowhere if the text ends here. */
        private int next() {
            return at < length ? letters[at] : -1;
        }

        /** In a text of the right form the letters X, Y and Z are nothing but variables. */
        private int unboundVariable() {
            for (int i = 0; i < length; i++) {
                if (isVariable(letters[i]) && !rule.hasVariable(letters[i] - 'X')) {
                    return i;
                }
            }
            return NONE;
        }
    }

    /**
     * What the rules alone give: the strata and all instances. The instances of a rule stand together, in the
     * order of the constants for X, Y and Z; in the body of an instance the literals that are not negated come
     * first, in their order.
     */
    private static final class Grounding {
        final int[] stratumOf = new int[PREDICATES];
        boolean stratified;
        int ruleCount;
        final int[] headStratum = new int[MOST_RULES];
        final int[] price = new int[MOST_RULES];
        final int[] plainCount = new int[MOST_RULES];
        final int[] literalCount = new int[MOST_RULES];
        /** The first instance of each rule, and behind the last rule the number of all instances. */
        final int[] start = new int[MOST_RULES + 1];
        final int[] ruleOf = new int[MOST_INSTANCES];
        final int[] head = new int[MOST_INSTANCES];
        final int[] body = new int[MOST_INSTANCES * MOST_LITERALS];
        /** The constant that each term stands for in the instance that is being made. */
        private final int[] meaning = new int[MOST_CONSTANTS + VARIABLES];

        void fill(Program program) {
            ruleCount = program.ruleCount;
            findStrata(program);
            for (int constant = 0; constant < MOST_CONSTANTS; constant++) {
                meaning[constant] = constant;
            }
            start[0] = 0;
            for (int r = 0; r < ruleCount; r++) {
                Rule rule = program.ruleList[r];
                headStratum[r] = stratumOf[rule.predicate[0]];
                price[r] = rule.price;
                literalCount[r] = rule.literals;
                plainCount[r] = 0;
                for (int k = 1; k <= rule.literals; k++) {
                    plainCount[r] += rule.negated[k] ? 0 : 1;
                }
                start[r + 1] = fillInstances(rule, r, program.constants);
            }
        }

        /** Each pass that changes something lengthens a chain of predicates; a chain without end is a circle. */
        private void findStrata(Program program) {
            Arrays.fill(stratumOf, 0);
            boolean changed = true;
            for (int pass = 0; changed && pass <= PREDICATES; pass++) {
                changed = false;
                for (int r = 0; r < program.ruleCount; r++) {
                    if (raiseHead(program.ruleList[r])) {
                        changed = true;
                    }
                }
            }
            stratified = !changed;
        }

        private boolean raiseHead(Rule rule) {
            int due = 0;
            for (int k = 1; k <= rule.literals; k++) {
                due = Math.max(due, stratumOf[rule.predicate[k]] + (rule.negated[k] ? 1 : 0));
            }
            if (stratumOf[rule.predicate[0]] >= due) {
                return false;
            }
            stratumOf[rule.predicate[0]] = due;
            return true;
        }

        /** Returns the number of instances up to the last one of this rule. */
        private int fillInstances(Rule rule, int r, int constants) {
            int instance = start[r];
            int mostX = rule.hasVariable(0) ? constants : 1;
            int mostY = rule.hasVariable(1) ? constants : 1;
            int mostZ = rule.hasVariable(2) ? constants : 1;
            for (int x = 0; x < mostX; x++) {
                for (int y = 0; y < mostY; y++) {
                    for (int z = 0; z < mostZ; z++) {
                        meaning[Rule.FIRST_VARIABLE] = x;
                        meaning[Rule.FIRST_VARIABLE + 1] = y;
                        meaning[Rule.FIRST_VARIABLE + 2] = z;
                        fillInstance(rule, r, instance);
                        instance++;
                    }
                }
            }
            return instance;
        }

        private void fillInstance(Rule rule, int r, int instance) {
            ruleOf[instance] = r;
            int plain = instance * MOST_LITERALS;
            int negated = plain + plainCount[r];
            for (int k = 0; k <= rule.literals; k++) {
                int atom = atomNumber(rule.predicate[k], meaning[rule.first[k]], meaning[rule.second[k]]);
                if (k == 0) {
                    head[instance] = atom;
                } else if (rule.negated[k]) {
                    body[negated] = atom;
                    negated++;
                } else {
                    body[plain] = atom;
                    plain++;
                }
            }
        }
    }

    /** A model: the round of each atom that is in it. */
    private static final class Model {
        final int[] roundOf = new int[ATOMS];
        int lastRound;
        int atoms;

        void build(Program program, Grounding grounding, int without) {
            Arrays.fill(roundOf, ABSENT);
            lastRound = 0;
            for (int i = 0; i < program.factCount; i++) {
                if (((without >> i) & 1) == 0) {
                    roundOf[program.factAtom[i]] = 0;
                }
            }
            for (int stratum = 0; stratum < PREDICATES; stratum++) {
                buildStratum(grounding, stratum);
            }
            atoms = 0;
            for (int predicate = 0; predicate < PREDICATES; predicate++) {
                atoms += atomsOf(predicate);
            }
        }

        int atomsOf(int predicate) {
            int present = 0;
            int from = predicate * ATOMS_OF_PREDICATE;
            for (int atom = from; atom < from + ATOMS_OF_PREDICATE; atom++) {
                if (roundOf[atom] != ABSENT) {
                    present++;
                }
            }
            return present;
        }

        private void buildStratum(Grounding grounding, int stratum) {
            boolean found = true;
            for (int turn = 0; found && turn < MOST_PASSES; turn++) {
                found = false;
                for (int r = 0; r < grounding.ruleCount; r++) {
                    if (grounding.headStratum[r] == stratum && takeHeads(grounding, r, lastRound + 1)) {
                        found = true;
                    }
                }
                if (found) {
                    lastRound++;
                }
            }
        }

        private boolean takeHeads(Grounding grounding, int r, int round) {
            boolean found = false;
            for (int instance = grounding.start[r]; instance < grounding.start[r + 1]; instance++) {
                int head = grounding.head[instance];
                if (roundOf[head] == ABSENT && holdsBefore(grounding, instance, round)) {
                    roundOf[head] = round;
                    found = true;
                }
            }
            return found;
        }

        /** Negated atoms belong to lower strata, so they are there for good or not at all. */
        boolean holdsBefore(Grounding grounding, int instance, int round) {
            int rule = grounding.ruleOf[instance];
            int from = instance * MOST_LITERALS;
            int negatedFrom = from + grounding.plainCount[rule];
            for (int k = from; k < negatedFrom; k++) {
                int came = roundOf[grounding.body[k]];
                if (came == ABSENT || came >= round) {
                    return false;
                }
            }
            for (int k = negatedFrom; k < from + grounding.literalCount[rule]; k++) {
                if (roundOf[grounding.body[k]] != ABSENT) {
                    return false;
                }
            }
            return true;
        }
    }

    /** The instances that hold, in the order of rules, then of the constants for X, Y and Z. */
    private static final class Holding {
        final int[] instance = new int[MOST_INSTANCES];
        int total;
        final int[] ofHead = new int[ATOMS];

        void collect(Grounding grounding, Model model) {
            total = 0;
            Arrays.fill(ofHead, 0);
            for (int i = 0; i < grounding.start[grounding.ruleCount]; i++) {
                if (model.holdsBefore(grounding, i, model.lastRound + 1)) {
                    instance[total] = i;
                    total++;
                    ofHead[grounding.head[i]]++;
                }
            }
        }
    }

    /** The costs and the least derivations. */
    private static final class Costs {
        final int[] costOf = new int[ATOMS];
        /** Of the least derivation: its rule, the number of its facts and heads, the set of its base facts. */
        final int[] ruleOf = new int[ATOMS];
        final int[] nodesOf = new int[ATOMS];
        final int[] basesOf = new int[ATOMS];
        /** The cheapest base fact that is the atom, and the instance of the least derivation. */
        private final int[] base = new int[ATOMS];
        private final int[] chosen = new int[ATOMS];

        void compute(Program program, Grounding grounding, Holding holding) {
            startWithBaseFacts(program);
            boolean changed = true;
            for (int pass = 0; changed && pass < MOST_PASSES; pass++) {
                changed = lower(grounding, holding);
            }
            choose(program, grounding, holding);
            boolean grown = true;
            for (int pass = 0; grown && pass < MOST_PASSES; pass++) {
                grown = grow(grounding);
            }
        }

        private void startWithBaseFacts(Program program) {
            Arrays.fill(costOf, TOO_DEAR);
            Arrays.fill(base, NOTHING);
            for (int i = 0; i < program.factCount; i++) {
                int atom = program.factAtom[i];
                if (program.factCost[i] < costOf[atom]) {
                    costOf[atom] = program.factCost[i];
                    base[atom] = i;
                }
            }
        }

        private boolean lower(Grounding grounding, Holding holding) {
            boolean changed = false;
            for (int i = 0; i < holding.total; i++) {
                int instance = holding.instance[i];
                int head = grounding.head[instance];
                int found = costBy(grounding, instance);
                if (found < costOf[head]) {
                    costOf[head] = found;
                    changed = true;
                }
            }
            return changed;
        }

        private int costBy(Grounding grounding, int instance) {
            int rule = grounding.ruleOf[instance];
            int from = instance * MOST_LITERALS;
            int sum = grounding.price[rule];
            for (int k = from; k < from + grounding.plainCount[rule]; k++) {
                sum += costOf[grounding.body[k]];
            }
            return Math.min(sum, TOO_DEAR);
        }

        private void choose(Program program, Grounding grounding, Holding holding) {
            Arrays.fill(chosen, NOTHING);
            for (int i = 0; i < holding.total; i++) {
                int instance = holding.instance[i];
                int head = grounding.head[instance];
                if (chosen[head] == NOTHING && costBy(grounding, instance) == costOf[head]) {
                    chosen[head] = instance;
                }
            }
            for (int atom = 0; atom < ATOMS; atom++) {
                int fact = base[atom];
                boolean isBase = fact != NOTHING && program.factCost[fact] == costOf[atom];
                ruleOf[atom] = NO_RULE;
                nodesOf[atom] = isBase ? 1 : 0;
                basesOf[atom] = isBase ? 1 << fact : 0;
                if (!isBase && chosen[atom] != NOTHING) {
                    ruleOf[atom] = grounding.ruleOf[chosen[atom]];
                }
            }
        }

        /** Puts together the least derivations whose parts are known; the others have 0 nodes until then. */
        private boolean grow(Grounding grounding) {
            boolean grown = false;
            for (int atom = 0; atom < ATOMS; atom++) {
                boolean waits = nodesOf[atom] == 0 && chosen[atom] != NOTHING && costOf[atom] < TOO_DEAR;
                if (waits && partsAreKnown(grounding, chosen[atom])) {
                    putTogether(grounding, atom);
                    grown = true;
                }
            }
            return grown;
        }

        private boolean partsAreKnown(Grounding grounding, int instance) {
            int from = instance * MOST_LITERALS;
            int plain = grounding.plainCount[grounding.ruleOf[instance]];
            for (int k = from; k < from + plain; k++) {
                if (nodesOf[grounding.body[k]] == 0) {
                    return false;
                }
            }
            return true;
        }

        private void putTogether(Grounding grounding, int atom) {
            int from = chosen[atom] * MOST_LITERALS;
            int nodes = 1;
            int bases = 0;
            for (int k = from; k < from + grounding.plainCount[ruleOf[atom]]; k++) {
                int part = grounding.body[k];
                nodes += nodesOf[part];
                bases |= basesOf[part];
            }
            nodesOf[atom] = nodes;
            basesOf[atom] = bases;
        }
    }

    /** The likelihoods. A product of floats up to 1 grows with its parts, so the greatest parts are enough. */
    private static final class Likelihoods {
        final float[] likelihoodOf = new float[ATOMS];

        void compute(Program program, Grounding grounding, Holding holding) {
            for (int atom = 0; atom < ATOMS; atom++) {
                likelihoodOf[atom] = 0f;
            }
            for (int i = 0; i < program.factCount; i++) {
                raise(program.factAtom[i], (float) program.factSixteenths[i] / SIXTEENTHS);
            }
            boolean changed = true;
            for (int pass = 0; changed && pass < MOST_PASSES; pass++) {
                changed = false;
                for (int i = 0; i < holding.total; i++) {
                    int instance = holding.instance[i];
                    if (raise(grounding.head[instance], likelihoodBy(grounding, instance))) {
                        changed = true;
                    }
                }
            }
        }

        private boolean raise(int atom, float found) {
            if (found <= likelihoodOf[atom]) {
                return false;
            }
            likelihoodOf[atom] = found;
            return true;
        }

        private float likelihoodBy(Grounding grounding, int instance) {
            int from = instance * MOST_LITERALS;
            int plain = grounding.plainCount[grounding.ruleOf[instance]];
            float product = 1f;
            for (int k = from; k < from + plain; k++) {
                product = product * likelihoodOf[grounding.body[k]];
            }
            return product;
        }
    }

    /**
     * Which facts can do without which sets of at most three base facts. The sets stand in the order in which
     * cut() looks at them; each atom has a row of bits, one for each set that it can do without, so that a
     * single fixpoint settles all sets at once.
     */
    private static final class Survivals {
        private final int[] smallSets = new int[SMALL_SETS];
        private final long[] rows = new long[ATOMS * WORDS];

        Survivals() {
            int filled = 0;
            for (int a = 0; a < MOST_FACTS; a++) {
                smallSets[filled++] = 1 << a;
            }
            for (int a = 0; a < MOST_FACTS; a++) {
                for (int b = a + 1; b < MOST_FACTS; b++) {
                    smallSets[filled++] = 1 << a | 1 << b;
                }
            }
            for (int a = 0; a < MOST_FACTS; a++) {
                for (int b = a + 1; b < MOST_FACTS; b++) {
                    for (int c = b + 1; c < MOST_FACTS; c++) {
                        smallSets[filled++] = 1 << a | 1 << b | 1 << c;
                    }
                }
            }
        }

        void compute(Program program, Grounding grounding, Holding holding) {
            Arrays.fill(rows, 0L);
            for (int i = 0; i < program.factCount; i++) {
                enterBaseFact(program.factAtom[i] * WORDS, i);
            }
            boolean changed = true;
            for (int pass = 0; changed && pass < MOST_PASSES; pass++) {
                changed = false;
                for (int i = 0; i < holding.total; i++) {
                    if (widen(grounding, holding.instance[i])) {
                        changed = true;
                    }
                }
            }
        }

        int neededBy(int atom) {
            int needed = 0;
            for (int i = 0; i < MOST_FACTS; i++) {
                if (!survives(atom, i)) {
                    needed |= smallSets[i];
                }
            }
            return needed;
        }

        int firstCut(int atom) {
            for (int i = 0; i < SMALL_SETS; i++) {
                if (!survives(atom, i)) {
                    return smallSets[i];
                }
            }
            return NONE;
        }

        private boolean survives(int atom, int setNumber) {
            long word = rows[atom * WORDS + setNumber / WORD_BITS];
            return ((word >>> (setNumber % WORD_BITS)) & 1L) != 0L;
        }

        private void enterBaseFact(int row, int fact) {
            for (int i = 0; i < SMALL_SETS; i++) {
                if (((smallSets[i] >> fact) & 1) == 0) {
                    rows[row + i / WORD_BITS] |= 1L << (i % WORD_BITS);
                }
            }
        }

        private boolean widen(Grounding grounding, int instance) {
            int from = instance * MOST_LITERALS;
            int plain = grounding.plainCount[grounding.ruleOf[instance]];
            int row = grounding.head[instance] * WORDS;
            boolean changed = false;
            for (int w = 0; w < WORDS; w++) {
                long all = -1L;
                for (int k = from; k < from + plain; k++) {
                    all &= rows[grounding.body[k] * WORDS + w];
                }
                long wider = rows[row + w] | all;
                if (wider != rows[row + w]) {
                    rows[row + w] = wider;
                    changed = true;
                }
            }
            return changed;
        }
    }
}
