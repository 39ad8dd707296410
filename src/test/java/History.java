import java.util.List;

/**
 * An engine and what the document says of its state. Each step is one call (or the calls of a text), whose answer
 * must be what follows from this state.
 */
final class History implements Names {
    private final Check check;
    private final FactOrigins engine = new FactOrigins();
    private Plan plan = new Plan(4);
    private final Plan[] slots = new Plan[2];
    private String text = "";
    private final StringBuilder told = new StringBuilder();
    private int calls = 0;

    History(Check check, String name) {
        this.check = check;
        told.append(name);
    }

    Plan plan() {
        return plan;
    }

    String text() {
        return text;
    }

    int calls() {
        return calls;
    }

    private void due(String call, long got, long want) {
        calls++;
        told.append("; ").append(call);
        check.due(told.toString(), got, want);
    }

    void begin(int constants) {
        due("begin(" + constants + ")", engine.begin(constants), plan.constants);
        plan = new Plan(constants);
    }

    void places(int predicate, int count) {
        boolean used = plan.uses(predicate);
        due("setPlaces(" + predicate + ", " + count + ")", engine.setPlaces(predicate, count),
                used ? NOT_POSSIBLE : plan.places[predicate]);
        if (!used) {
            plan.places[predicate] = count;
        }
    }

    void fact(int predicate, int first, int second, int cost, int sixteenths) {
        boolean full = plan.facts.size() == 12;
        due("addFact(" + predicate + ", " + first + ", " + second + ", " + cost + ", " + sixteenths + ")",
                engine.addFact(predicate, first, second, cost, sixteenths), full ? FULL : plan.facts.size());
        if (!full) {
            plan.facts.add(new Plan.Fact(predicate, first, second, cost, sixteenths));
        }
    }

    void dropFact(int fact) {
        boolean there = fact < plan.facts.size();
        due("removeFact(" + fact + ")", engine.removeFact(fact), there ? plan.facts.size() - 1 : BAD_INDEX);
        if (there) {
            plan.facts.remove(fact);
        }
    }

    void write(String letters) {
        due("clearText()", engine.clearText(), text.length());
        text = letters;
        told.append("; the text ").append(letters);
        for (int i = 0; i < letters.length(); i++) {
            calls++;
            check.due(told.toString(), engine.append(letters.charAt(i)), i + 1);
        }
    }

    void fault(int position) {
        due("faultPosition()", engine.faultPosition(), position);
    }

    void rule(int cost, String letters) {
        write(letters);
        ruleAgain(cost);
    }

    /** Adds the rule of the text, which must be without a fault. */
    void ruleAgain(int cost) {
        boolean full = plan.rules.size() == 8;
        due("addRule(" + cost + ")", engine.addRule(cost), full ? FULL : plan.rules.size());
        if (!full) {
            plan.rules.add(new Plan.Rule(text, cost));
        }
    }

    void ruleRefused(int cost) {
        due("addRule(" + cost + ")", engine.addRule(cost), NOT_POSSIBLE);
    }

    void dropRule(int rule) {
        boolean there = rule < plan.rules.size();
        due("removeRule(" + rule + ")", engine.removeRule(rule), there ? plan.rules.size() - 1 : BAD_INDEX);
        if (there) {
            plan.rules.remove(rule);
        }
    }

    void save(int slot) {
        due("save(" + slot + ")", engine.save(slot), plan.rules.size());
        slots[slot] = plan.copy();
    }

    void restore(int slot) {
        boolean filled = slots[slot] != null;
        due("restore(" + slot + ")", engine.restore(slot), filled ? slots[slot].rules.size() : NOT_POSSIBLE);
        if (filled) {
            plan = slots[slot].copy();
        }
    }

    /** Lets the engine compute all that it may keep. The answers are looked at in compare(). */
    void ask() {
        told.append("; asked");
        calls += 5;
        engine.checksum();
        engine.needs(Q, 0, 0);
        engine.cut(Q, 0, 0);
        engine.sizeWithout(0b1);
        engine.faultPosition();
    }

    /** Ends the history: its engine must tell what one tells that is brought straight to its state. */
    void compare() {
        FactOrigins straight = new FactOrigins();
        for (int slot = 0; slot < slots.length; slot++) {
            if (slots[slot] != null) {
                slots[slot].enter(straight);
                straight.save(slot);
            }
        }
        plan.enter(straight);
        Engines.write(straight, text);
        for (int predicate : new int[] {P, Q, R}) {
            for (int first = 0; first < 3; first++) {
                for (int second = 0; second < 3; second++) {
                    String fact = " of " + predicate + " " + first + " " + second;
                    check.due(told + "; needs" + fact, engine.needs(predicate, first, second),
                            straight.needs(predicate, first, second));
                    check.due(told + "; cut" + fact, engine.cut(predicate, first, second),
                            straight.cut(predicate, first, second));
                }
            }
        }
        List<Long> due = Asks.traits(straight);
        List<Long> got = Asks.traits(engine);
        for (int i = 0; i < due.size(); i++) {
            check.due(told + "; trait " + i, got.get(i), due.get(i));
        }
    }
}
