import java.util.ArrayList;
import java.util.Arrays;
import java.util.HashMap;
import java.util.HashSet;
import java.util.LinkedHashMap;
import java.util.List;
import java.util.Map;
import java.util.Set;
import java.util.regex.Matcher;
import java.util.regex.Pattern;

/**
 * The document once more, in a slow and different way: facts are texts, the form of a rule is a regular
 * expression, costs and likelihoods are settled best first, and every set of base facts has a closure of its own.
 */
final class Reference {
    static final int BAD_INDEX = -1;
    static final int BAD_VALUE = -2;
    static final int NOT_POSSIBLE = -3;
    static final int FULL = -4;
    static final int NONE = -5;
    static final int NO_MODEL = -6;

    record Base(String atom, int cost, int sixteenths) {
    }

    record Literal(boolean negated, char predicate, String terms) {
        String with(Map<Character, Character> constants) {
            StringBuilder atom = new StringBuilder().append(predicate);
            for (char term : terms.toCharArray()) {
                atom.append(constants.getOrDefault(term, term));
            }
            return atom.toString();
        }
    }

    record Rule(int cost, Literal head, List<Literal> body) {
        boolean mentions(char predicate) {
            return head.predicate == predicate || body.stream().anyMatch(l -> l.predicate == predicate);
        }
    }

    record Instance(int rule, int cost, String head, List<String> plain, List<String> negated) {
    }

    record State(int n, int[] places, List<Base> bases, List<Rule> rules) {
        State copy() {
            return new State(n, places.clone(), new ArrayList<>(bases), new ArrayList<>(rules));
        }
    }

    /** A least derivation; parts may be shared, so the counts are kept. */
    record Tree(int rule, long nodes, int used) {
    }

    private State state = fresh(4);
    private final State[] slots = new State[2];
    private String text = "";

    private static State fresh(int n) {
        return new State(n, new int[] {2, 2, 2, 2, 2, 2}, new ArrayList<>(), new ArrayList<>());
    }

    int begin(int constants) {
        if (constants < 1 || constants > 6) {
            return BAD_VALUE;
        }
        int before = state.n;
        state = fresh(constants);
        return before;
    }

    int setPlaces(int predicate, int places) {
        if (predicate < 0 || predicate > 5) {
            return BAD_INDEX;
        }
        if (places != 1 && places != 2) {
            return BAD_VALUE;
        }
        char letter = (char) ('p' + predicate);
        if (state.bases.stream().anyMatch(b -> b.atom.charAt(0) == letter)
                || state.rules.stream().anyMatch(r -> r.mentions(letter))) {
            return NOT_POSSIBLE;
        }
        int before = state.places[predicate];
        state.places[predicate] = places;
        return before;
    }

    /** The fact as a text, or null if a call can't name it. */
    private String atom(int predicate, int first, int second) {
        if (predicate < 0 || predicate > 5 || first < 0 || first >= state.n || second < 0 || second >= state.n) {
            return null;
        }
        String start = "" + (char) ('p' + predicate) + first;
        if (state.places[predicate] == 1) {
            return second == 0 ? start : null;
        }
        return start + second;
    }

    int addFact(int predicate, int first, int second, int cost, int sixteenths) {
        String atom = atom(predicate, first, second);
        if (atom == null) {
            return BAD_INDEX;
        }
        if (cost < 0 || cost > 99 || sixteenths < 1 || sixteenths > 16) {
            return BAD_VALUE;
        }
        if (state.bases.size() == 12) {
            return FULL;
        }
        state.bases.add(new Base(atom, cost, sixteenths));
        return state.bases.size() - 1;
    }

    int removeFact(int fact) {
        if (fact < 0 || fact >= state.bases.size()) {
            return BAD_INDEX;
        }
        state.bases.remove(fact);
        return state.bases.size();
    }

    int facts() {
        return state.bases.size();
    }

    int removeRule(int rule) {
        if (rule < 0 || rule >= state.rules.size()) {
            return BAD_INDEX;
        }
        state.rules.remove(rule);
        return state.rules.size();
    }

    int rules() {
        return state.rules.size();
    }

    int append(int letter) {
        if (letter < 0 || letter > 127) {
            return BAD_VALUE;
        }
        if (text.length() == 60) {
            return FULL;
        }
        text = text + (char) letter;
        return text.length();
    }

    int clearText() {
        int before = text.length();
        text = "";
        return before;
    }

    private String atomForm() {
        StringBuilder forms = new StringBuilder();
        String term = "[XYZ0-" + (state.n - 1) + "]";
        for (int p = 0; p < 6; p++) {
            forms.append(p == 0 ? "" : "|").append((char) ('p' + p)).append("\\(").append(term);
            forms.append(state.places[p] == 2 ? "," + term : "").append("\\)");
        }
        return "(?:" + forms + ")";
    }

    int faultPosition() {
        Pattern form = Pattern.compile(atomForm() + "<!?" + atomForm() + "(?:,!?" + atomForm() + "){0,2}",
                Pattern.DOTALL);
        for (int end = 1; end <= text.length(); end++) {
            Matcher matcher = form.matcher(text.substring(0, end));
            if (!matcher.matches() && !matcher.hitEnd()) {
                return end - 1;
            }
        }
        if (!form.matcher(text).matches()) {
            return text.length();
        }
        Rule rule = parse(1);
        for (int i = 0; i < text.length(); i++) {
            String letter = text.substring(i, i + 1);
            if ("XYZ".contains(letter)
                    && rule.body.stream().noneMatch(l -> !l.negated && l.terms.contains(letter))) {
                return i;
            }
        }
        return NONE;
    }

    private Rule parse(int cost) {
        Matcher matcher = Pattern.compile("(!?)([p-u])\\(([^)]*)\\)").matcher(text);
        List<Literal> literals = new ArrayList<>();
        while (matcher.find()) {
            literals.add(new Literal(!matcher.group(1).isEmpty(), matcher.group(2).charAt(0),
                    matcher.group(3).replace(",", "")));
        }
        return new Rule(cost, literals.get(0), List.copyOf(literals.subList(1, literals.size())));
    }

    int addRule(int cost) {
        if (cost < 1 || cost > 9) {
            return BAD_VALUE;
        }
        if (faultPosition() != NONE) {
            return NOT_POSSIBLE;
        }
        if (state.rules.size() == 8) {
            return FULL;
        }
        state.rules.add(parse(cost));
        return state.rules.size() - 1;
    }

    // ---- the model

    /** The strata, or null if some predicate depends on a negation of itself. */
    private int[] strata() {
        boolean[][] reaches = new boolean[6][6];
        for (Rule rule : state.rules) {
            for (Literal literal : rule.body) {
                reaches[rule.head.predicate - 'p'][literal.predicate - 'p'] = true;
            }
        }
        for (int k = 0; k < 6; k++) {
            for (int i = 0; i < 6; i++) {
                for (int j = 0; j < 6; j++) {
                    reaches[i][j] |= reaches[i][k] && reaches[k][j];
                }
            }
        }
        for (Rule rule : state.rules) {
            for (Literal literal : rule.body) {
                int from = rule.head.predicate - 'p';
                int to = literal.predicate - 'p';
                if (literal.negated && (from == to || reaches[to][from])) {
                    return null;
                }
            }
        }
        int[] strata = new int[6];
        for (int p = 0; p < 6; p++) {
            strata[p] = mostNegations(p, 12);
        }
        return strata;
    }

    /** The greatest number of negations on a way from this predicate down; without a circle 12 steps are enough. */
    private int mostNegations(int predicate, int steps) {
        int[] most = new int[6];
        for (int step = 0; step < steps; step++) {
            int[] longer = most.clone();
            for (Rule rule : state.rules) {
                for (Literal literal : rule.body) {
                    int head = rule.head.predicate - 'p';
                    longer[head] = Math.max(longer[head],
                            most[literal.predicate - 'p'] + (literal.negated ? 1 : 0));
                }
            }
            most = longer;
        }
        return most[predicate];
    }

    private List<Instance> allInstances() {
        List<Instance> found = new ArrayList<>();
        for (int r = 0; r < state.rules.size(); r++) {
            Rule rule = state.rules.get(r);
            Set<String> seen = new HashSet<>();
            for (int code = 0; code < state.n * state.n * state.n; code++) {
                Map<Character, Character> constants = new HashMap<>();
                constants.put('X', (char) ('0' + code / (state.n * state.n)));
                constants.put('Y', (char) ('0' + code / state.n % state.n));
                constants.put('Z', (char) ('0' + code % state.n));
                List<String> plain = new ArrayList<>();
                List<String> negated = new ArrayList<>();
                for (Literal literal : rule.body) {
                    (literal.negated ? negated : plain).add(literal.with(constants));
                }
                Instance instance = new Instance(r, rule.cost, rule.head.with(constants), plain, negated);
                if (seen.add(instance.toString())) {
                    found.add(instance);
                }
            }
        }
        return found;
    }

    /** The rounds of the facts of the model without some base facts, in order of coming. */
    private Map<String, Integer> build(int without) {
        int[] strata = strata();
        Map<String, Integer> rounds = new LinkedHashMap<>();
        for (int i = 0; i < state.bases.size(); i++) {
            if ((without >> i & 1) == 0) {
                rounds.put(state.bases.get(i).atom, 0);
            }
        }
        List<Instance> instances = allInstances();
        int round = 0;
        for (int stratum = 0; stratum <= 6; stratum++) {
            while (true) {
                Set<String> heads = new HashSet<>();
                for (Instance instance : instances) {
                    if (strata[instance.head.charAt(0) - 'p'] == stratum
                            && rounds.keySet().containsAll(instance.plain)
                            && instance.negated.stream().noneMatch(rounds::containsKey)) {
                        heads.add(instance.head);
                    }
                }
                heads.removeAll(rounds.keySet());
                if (heads.isEmpty()) {
                    break;
                }
                round++;
                for (String head : heads) {
                    rounds.put(head, round);
                }
            }
        }
        return rounds;
    }

    private List<Instance> holding(Set<String> model) {
        List<Instance> found = new ArrayList<>();
        for (Instance instance : allInstances()) {
            if (model.containsAll(instance.plain) && instance.negated.stream().noneMatch(model::contains)) {
                found.add(instance);
            }
        }
        return found;
    }

    /** Predicate and constants of a fact of the model, or null if there is none. */
    int[] someFact(int number) {
        if (strata() == null) {
            return null;
        }
        List<String> atoms = new ArrayList<>(build(0).keySet());
        if (atoms.isEmpty()) {
            return null;
        }
        atoms.sort(null);
        String atom = atoms.get(number % atoms.size());
        return new int[] {atom.charAt(0) - 'p', atom.charAt(1) - '0', atom.length() == 3 ? atom.charAt(2) - '0' : 0};
    }

    int stratum(int predicate) {
        if (predicate < 0 || predicate > 5) {
            return BAD_INDEX;
        }
        int[] strata = strata();
        return strata == null ? NO_MODEL : strata[predicate];
    }

    int size() {
        return strata() == null ? NO_MODEL : build(0).size();
    }

    int count(int predicate) {
        if (predicate < 0 || predicate > 5) {
            return BAD_INDEX;
        }
        if (strata() == null) {
            return NO_MODEL;
        }
        return (int) build(0).keySet().stream().filter(a -> a.charAt(0) == 'p' + predicate).count();
    }

    int rounds() {
        return strata() == null ? NO_MODEL : build(0).values().stream().mapToInt(i -> i).max().orElse(0);
    }

    /** An error or NONE if the fact is not in the model, and 0 if it is. */
    private int lookUp(String atom) {
        if (atom == null) {
            return BAD_INDEX;
        }
        if (strata() == null) {
            return NO_MODEL;
        }
        return build(0).containsKey(atom) ? 0 : NONE;
    }

    int round(int predicate, int first, int second) {
        String atom = atom(predicate, first, second);
        int error = lookUp(atom);
        return error < 0 ? error : build(0).get(atom);
    }

    int instances(int predicate, int first, int second) {
        String atom = atom(predicate, first, second);
        int error = lookUp(atom);
        if (error < 0 && error != NONE) {
            return error;
        }
        return (int) holding(build(0).keySet()).stream().filter(i -> i.head.equals(atom)).count();
    }

    // ---- provenance

    /** The costs of all facts that have one, settled from the cheapest on. */
    private Map<String, Long> costs() {
        List<Instance> holding = holding(build(0).keySet());
        Map<String, Long> settled = new HashMap<>();
        while (true) {
            String best = null;
            long bestCost = Long.MAX_VALUE;
            for (Base base : state.bases) {
                if (!settled.containsKey(base.atom) && base.cost < bestCost) {
                    best = base.atom;
                    bestCost = base.cost;
                }
            }
            for (Instance instance : holding) {
                if (!settled.containsKey(instance.head) && settled.keySet().containsAll(instance.plain)) {
                    long cost = instance.cost + instance.plain.stream().mapToLong(settled::get).sum();
                    if (cost < bestCost) {
                        best = instance.head;
                        bestCost = cost;
                    }
                }
            }
            if (best == null) {
                return settled;
            }
            settled.put(best, Math.min(bestCost, 1000001L));
        }
    }

    private Map<String, Float> likelihoods() {
        List<Instance> holding = holding(build(0).keySet());
        Map<String, Float> settled = new HashMap<>();
        while (true) {
            String best = null;
            float greatest = -1;
            for (Base base : state.bases) {
                float found = base.sixteenths / 16f;
                if (!settled.containsKey(base.atom) && found > greatest) {
                    best = base.atom;
                    greatest = found;
                }
            }
            for (Instance instance : holding) {
                if (!settled.containsKey(instance.head) && settled.keySet().containsAll(instance.plain)) {
                    float found = 1f;
                    for (String part : instance.plain) {
                        found *= settled.get(part);
                    }
                    if (found > greatest) {
                        best = instance.head;
                        greatest = found;
                    }
                }
            }
            if (best == null) {
                return settled;
            }
            settled.put(best, greatest);
        }
    }

    int cost(int predicate, int first, int second) {
        String atom = atom(predicate, first, second);
        int error = lookUp(atom);
        return error < 0 ? error : (int) (long) costs().get(atom);
    }

    int likelihood(int predicate, int first, int second) {
        String atom = atom(predicate, first, second);
        int error = lookUp(atom);
        return error < 0 ? error : Float.floatToIntBits(likelihoods().get(atom));
    }

    private Tree tree(String atom, Map<String, Long> costs, List<Instance> holding, Map<String, Tree> known) {
        if (known.containsKey(atom)) {
            return known.get(atom);
        }
        Tree tree = null;
        for (int i = state.bases.size() - 1; i >= 0; i--) {
            if (state.bases.get(i).atom.equals(atom) && state.bases.get(i).cost == costs.get(atom)) {
                tree = new Tree(8, 1, 1 << i);
            }
        }
        for (int i = 0; tree == null && i < holding.size(); i++) {
            Instance instance = holding.get(i);
            long cost = instance.cost + instance.plain.stream().mapToLong(costs::get).sum();
            if (instance.head.equals(atom) && cost == costs.get(atom)) {
                long nodes = 1;
                int used = 0;
                for (String part : instance.plain) {
                    Tree partTree = tree(part, costs, holding, known);
                    nodes += partTree.nodes;
                    used |= partTree.used;
                }
                tree = new Tree(instance.rule, nodes, used);
            }
        }
        known.put(atom, tree);
        return tree;
    }

    private int leastOf(String atom, int what, Map<String, Long> costs, List<Instance> holding,
            Map<String, Tree> known) {
        if (costs.get(atom) > 1000000) {
            return NONE;
        }
        Tree tree = tree(atom, costs, holding, known);
        return what == 0 ? tree.rule : what == 1 ? (int) tree.nodes : tree.used;
    }

    int least(int predicate, int first, int second, int what) {
        String atom = atom(predicate, first, second);
        if (atom == null) {
            return BAD_INDEX;
        }
        if (what < 0 || what > 2) {
            return BAD_VALUE;
        }
        int error = lookUp(atom);
        return error < 0 ? error : leastOf(atom, what, costs(), holding(build(0).keySet()), new HashMap<>());
    }

    private boolean canDoWithout(String atom, int without, List<Instance> holding) {
        Set<String> derivable = new HashSet<>();
        for (int i = 0; i < state.bases.size(); i++) {
            if ((without >> i & 1) == 0) {
                derivable.add(state.bases.get(i).atom);
            }
        }
        boolean grown = true;
        while (grown) {
            grown = false;
            for (Instance instance : holding) {
                if (derivable.containsAll(instance.plain)) {
                    grown |= derivable.add(instance.head);
                }
            }
        }
        return derivable.contains(atom);
    }

    int needs(int predicate, int first, int second) {
        String atom = atom(predicate, first, second);
        int error = lookUp(atom);
        if (error < 0) {
            return error;
        }
        List<Instance> holding = holding(build(0).keySet());
        int needed = 0;
        for (int i = 0; i < state.bases.size(); i++) {
            needed |= canDoWithout(atom, 1 << i, holding) ? 0 : 1 << i;
        }
        return needed;
    }

    /** Of all sets the smallest, then by their numbers as an ascending text of letters. */
    int cut(int predicate, int first, int second) {
        String atom = atom(predicate, first, second);
        int error = lookUp(atom);
        if (error < 0) {
            return error;
        }
        List<Instance> holding = holding(build(0).keySet());
        int best = NONE;
        String bestName = null;
        for (int set = 0; set < 1 << state.bases.size(); set++) {
            if (Integer.bitCount(set) > 3) {
                continue;
            }
            StringBuilder name = new StringBuilder().append(Integer.bitCount(set));
            for (int i = 0; i < 12; i++) {
                name.append((set >> i & 1) == 0 ? "" : "" + (char) ('a' + i));
            }
            boolean earlier = bestName == null || name.toString().compareTo(bestName) < 0;
            if (earlier && !canDoWithout(atom, set, holding)) {
                best = set;
                bestName = name.toString();
            }
        }
        return best;
    }

    int sizeWithout(int without) {
        if (without < 0) {
            return BAD_VALUE;
        }
        return strata() == null ? NO_MODEL : build(without).size();
    }

    int holdsWithout(int without, int predicate, int first, int second) {
        String atom = atom(predicate, first, second);
        if (atom == null) {
            return BAD_INDEX;
        }
        if (without < 0) {
            return BAD_VALUE;
        }
        if (strata() == null) {
            return NO_MODEL;
        }
        return build(without).containsKey(atom) ? 1 : 0;
    }

    int save(int slot) {
        if (slot != 0 && slot != 1) {
            return BAD_INDEX;
        }
        slots[slot] = state.copy();
        return state.rules.size();
    }

    int restore(int slot) {
        if (slot != 0 && slot != 1) {
            return BAD_INDEX;
        }
        if (slots[slot] == null) {
            return NOT_POSSIBLE;
        }
        state = slots[slot].copy();
        return state.rules.size();
    }

    long checksum() {
        List<Long> values = new ArrayList<>(List.of((long) state.n, (long) facts(), (long) rules(), (long) size()));
        int[] strata = strata();
        if (strata != null) {
            values.add((long) rounds());
            Arrays.stream(strata).forEach(s -> values.add((long) s));
            Map<String, Integer> model = build(0);
            List<Instance> holding = holding(model.keySet());
            Map<String, Long> costs = costs();
            Map<String, Float> likelihoods = likelihoods();
            Map<String, Tree> known = new HashMap<>();
            model.keySet().stream().sorted().forEach(atom -> {
                values.add((long) model.get(atom));
                values.add(holding.stream().filter(i -> i.head.equals(atom)).count());
                values.add(costs.get(atom));
                values.add((long) Float.floatToIntBits(likelihoods.get(atom)));
                for (int what = 0; what <= 2; what++) {
                    values.add((long) leastOf(atom, what, costs, holding, known));
                }
            });
        }
        long h = 89;
        for (long value : values) {
            h = 31 * h + value;
        }
        return h;
    }
}
