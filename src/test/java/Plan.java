import java.util.ArrayList;
import java.util.Arrays;
import java.util.List;

/** What the document calls n, the places of predicates, the base facts and the rules, as plain values. */
final class Plan {
    record Fact(int predicate, int first, int second, int cost, int sixteenths) {
    }

    record Rule(String text, int cost) {
    }

    final int constants;
    final int[] places;
    final List<Fact> facts;
    final List<Rule> rules;

    Plan(int constants) {
        this(constants, new int[] {2, 2, 2, 2, 2, 2}, List.of(), List.of());
    }

    private Plan(int constants, int[] places, List<Fact> facts, List<Rule> rules) {
        this.constants = constants;
        this.places = places.clone();
        this.facts = new ArrayList<>(facts);
        this.rules = new ArrayList<>(rules);
    }

    Plan copy() {
        return new Plan(constants, places, facts, rules);
    }

    boolean uses(int predicate) {
        String letter = "" + (char) ('p' + predicate);
        return facts.stream().anyMatch(fact -> fact.predicate == predicate)
                || rules.stream().anyMatch(rule -> rule.text.contains(letter));
    }

    /** Brings an engine straight to this state. The engine's text is another one then. */
    void enter(FactOrigins engine) {
        engine.begin(constants);
        for (int predicate = 0; predicate < places.length; predicate++) {
            engine.setPlaces(predicate, places[predicate]);
        }
        for (Fact fact : facts) {
            Engines.fact(engine, fact.predicate, fact.first, fact.second, fact.cost, fact.sixteenths);
        }
        for (Rule rule : rules) {
            Engines.rule(engine, rule.cost, rule.text);
        }
    }

    @Override
    public String toString() {
        return "n " + constants + " places " + Arrays.toString(places) + " " + facts + " " + rules;
    }
}
