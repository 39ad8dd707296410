/** A history of made-up steps. A state has at most eight base facts and three rules, so that 512 calls are enough. */
final class MadeHistory implements Names {
    /** What is left is enough for one more step and for the calls by which the engines are compared. */
    private static final int MOST_CALLS = 512 - 172 - 40;
    private static final int MOST_FACTS = 8;
    private static final int MOST_RULES = 3;

    private final History history;
    private long seed;

    MadeHistory(Check check, int number) {
        history = new History(check, "made-up history " + number);
        seed = 104729L * (number + 1);
    }

    /** A linear congruence, so that every machine plays the same histories. */
    private int below(int bound) {
        seed = seed * 6364136223846793005L + 1442695040888963407L;
        return (int) ((seed >>> 33) % bound);
    }

    void play() {
        int steps = 5 + below(60);
        for (int i = 0; i < steps && history.calls() < MOST_CALLS; i++) {
            step();
            if (below(2) == 0) {
                history.ask();
            }
        }
        history.compare();
    }

    private void step() {
        switch (below(16)) {
            case 0 -> history.begin(1 + below(4));
            case 1, 2 -> history.places(below(6), 1 + below(2));
            case 3, 4, 5, 6 -> addFact();
            case 7, 8 -> history.dropFact(below(6));
            case 9, 10, 11 -> addRule();
            case 12 -> history.dropRule(below(3));
            case 13 -> history.save(below(2));
            case 14 -> history.restore(below(2));
            default -> writePart();
        }
    }

    private void addFact() {
        Plan plan = history.plan();
        if (plan.facts.size() < MOST_FACTS) {
            int predicate = below(4) == 0 ? below(6) : below(3);
            int second = plan.places[predicate] == 1 ? 0 : below(plan.constants);
            history.fact(predicate, below(plan.constants), second, below(10), 1 + below(16));
        }
    }

    private void addRule() {
        if (history.plan().rules.size() < MOST_RULES) {
            history.write(ruleText());
            addOwnRule();
        }
    }

    /** Where a predicate has one place, its second variable falls away, and may be missed elsewhere. */
    private void addOwnRule() {
        int cost = 1 + below(9);
        if (isBound(history.text())) {
            history.ruleAgain(cost);
        } else {
            history.ruleRefused(cost);
        }
    }

    private static boolean isBound(String rule) {
        String plain = rule.substring(rule.indexOf('<')).replaceAll("!.\\([^)]*\\)", "");
        return rule.chars().allMatch(letter -> "XYZ".indexOf(letter) < 0 || plain.indexOf(letter) >= 0);
    }

    private void writePart() {
        String whole = ruleText();
        history.write(whole.substring(0, below(whole.length() + 1)));
    }

    /** Sometimes the rules that come out of this are not stratified. */
    private String ruleText() {
        return switch (below(8)) {
            case 0 -> atom(P, "X", "Y") + "<" + atom(Q, "X", "Y");
            case 1 -> atom(P, "X", "Z") + "<" + atom(P, "X", "Y") + "," + atom(Q, "Y", "Z");
            case 2 -> atom(R, "X", "X") + "<" + atom(P, "X", "Y") + ",!" + atom(Q, "Y", "X");
            case 3 -> atom(Q, "Y", "X") + "<" + atom(Q, "X", "Y") + ",!" + atom(S, "X", "0");
            case 4 -> atom(S, "0", "X") + "<!" + atom(R, "0", "0") + "," + atom(Q, "X", "X");
            case 5 -> atom(P, "0", "0") + "<!" + atom(U, "0", "0");
            case 6 -> atom(U, "X", "Y") + "<" + atom(R, "X", "0") + "," + atom(P, "Y", "0");
            default -> atom(T, "Z", "0") + "<" + atom(P, "Z", "Z");
        };
    }

    private String atom(int predicate, String first, String second) {
        String terms = history.plan().places[predicate] == 1 ? first : first + "," + second;
        return (char) ('p' + predicate) + "(" + terms + ")";
    }
}
