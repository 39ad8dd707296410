import java.math.BigInteger;
import java.util.List;

/**
 * The boundary cases of the description and of the promises: for each sentence of the document that names one, a
 * test that fails if the sentence is broken. What is refused changes nothing: see RefusalTest.
 */
public final class BoundaryTest implements Names {
    private static final Check CHECK = new Check("BoundaryTest");
    /** The ends of a call's range are tested beside these, which lie far outside of all ranges. */
    private static final int[] FAR = {LOWEST, HIGHEST};

    private BoundaryTest() {
    }

    public static void main(String[] args) {
        constantsThereAre();
        predicatesThereAre();
        placesThereAre();
        placesOfUsedPredicates();
        twelveBaseFacts();
        removedBaseFacts();
        valuesOfBaseFacts();
        eightRules();
        removedRules();
        rulePrices();
        bodies();
        allLiteralsCount();
        strata();
        roundsThatCount();
        baseFactsFromTheBeginning();
        costsAtTheLimit();
        likelihoodsAtTheEnds();
        leastDerivations();
        smallestSets();
        orderOfSets();
        negatedAtomsAndDeletions();
        textLengths();
        lettersOfTheForm();
        digitsOfTheForm();
        endsOfTheForm();
        termsOfAnAtom();
        variablesWithoutLiteral();
        textsAfterLongerOnes();
        faultFollowsTheState();
        emptyEngine();
        beginAnew();
        sizesAndCounts();
        setsWithout();
        slotNumbers();
        fullSlots();
        slotsApart();
        firstAndLastOfChecksum();
        longSums();
        fiveHundredAndTwelveCalls();
        CHECK.end();
    }

    private static void due(String call, long got, long want) {
        CHECK.due(call, got, want);
    }

    // ---- Facts

    /** "There are n constants, 0 to n - 1, with n from 1 to 6, at first 4." */
    private static void constantsThereAre() {
        due("addFact(0, 3, 3) at first", new FactOrigins().addFact(P, 3, 3, 0, 1), 0);
        due("addFact(0, 4, 0) at first", new FactOrigins().addFact(P, 4, 0, 0, 1), BAD_INDEX);
        due("addFact(0, 0, 4) at first", new FactOrigins().addFact(P, 0, 4, 0, 1), BAD_INDEX);
        due("the previous n at first", new FactOrigins().begin(1), 4);
        for (int n = 1; n <= 6; n++) {
            FactOrigins engine = new FactOrigins();
            due("begin(" + n + ")", engine.begin(n), 4);
            due("the last constant", engine.addFact(P, n - 1, n - 1, 0, 1), 0);
            dueWrongConstant(engine, n, -1);
            dueWrongConstant(engine, n, n);
            for (int far : FAR) {
                dueWrongConstant(engine, n, far);
            }
            due("facts() of n = " + n, engine.facts(), 1);
            int[] answers = {0, 0, 0, Float.floatToIntBits(1 / 16f), 8, 1, 1, 1, 1, 1};
            for (int i = 0; i < answers.length; i++) {
                Asks.Ask ask = Asks.OF_FACT.get(i);
                due(ask.name() + " of the last constant", ask.of(engine, P, n - 1, n - 1), answers[i]);
            }
        }
        for (int wrong : new int[] {-1, 0, 7, LOWEST, HIGHEST}) {
            FactOrigins engine = new FactOrigins();
            due("begin(" + wrong + ")", engine.begin(wrong), BAD_VALUE);
            due("the previous n then", engine.begin(6), 4);
        }
    }

    private static void dueWrongConstant(FactOrigins engine, int n, int wrong) {
        String of = " of the constant " + wrong + " where n is " + n;
        due("addFact" + of, engine.addFact(P, wrong, 0, 0, 1), BAD_INDEX);
        due("addFact" + of, engine.addFact(P, 0, wrong, 0, 1), BAD_INDEX);
        for (Asks.Ask ask : Asks.OF_FACT) {
            due(ask.name() + of, ask.of(engine, P, wrong, 0), BAD_INDEX);
            due(ask.name() + of, ask.of(engine, P, 0, wrong), BAD_INDEX);
        }
    }

    /** "There are six predicates, 0 to 5"; BAD_INDEX: "There is no such predicate". */
    private static void predicatesThereAre() {
        for (int wrong : new int[] {-1, 6, LOWEST, HIGHEST}) {
            FactOrigins engine = new FactOrigins();
            String of = " of the predicate " + wrong;
            due("setPlaces" + of, engine.setPlaces(wrong, 1), BAD_INDEX);
            due("addFact" + of, engine.addFact(wrong, 0, 0, 0, 1), BAD_INDEX);
            due("stratum" + of, engine.stratum(wrong), BAD_INDEX);
            due("count" + of, engine.count(wrong), BAD_INDEX);
            for (Asks.Ask ask : Asks.OF_FACT) {
                due(ask.name() + of, ask.of(engine, wrong, 0, 0), BAD_INDEX);
            }
        }
        FactOrigins engine = new FactOrigins();
        for (int predicate = 0; predicate <= 5; predicate++) {
            due("addFact of " + predicate, engine.addFact(predicate, 1, 2, 0, 1), predicate);
            due("count of " + predicate, engine.count(predicate), 1);
            due("stratum of " + predicate, engine.stratum(predicate), 0);
            due("needs of " + predicate, engine.needs(predicate, 1, 2), 1 << predicate);
        }
    }

    /** "each has one or two places, at first two"; "the second constant must be 0 if the predicate has one place". */
    private static void placesThereAre() {
        for (int predicate = 0; predicate <= 5; predicate++) {
            FactOrigins engine = new FactOrigins();
            due("setPlaces(" + predicate + ", 0)", engine.setPlaces(predicate, 0), BAD_VALUE);
            due("setPlaces(" + predicate + ", 3)", engine.setPlaces(predicate, 3), BAD_VALUE);
            due("setPlaces(" + predicate + ", lowest)", engine.setPlaces(predicate, LOWEST), BAD_VALUE);
            due("setPlaces(" + predicate + ", highest)", engine.setPlaces(predicate, HIGHEST), BAD_VALUE);
            due("setPlaces(" + predicate + ", 1)", engine.setPlaces(predicate, 1), 2);
            due("setPlaces(" + predicate + ", 1) again", engine.setPlaces(predicate, 1), 1);
            for (int other = 0; other <= 5; other++) {
                due("the places of " + other, engine.setPlaces(other, 2), other == predicate ? 1 : 2);
            }
        }
        for (int n = 1; n <= 6; n++) {
            FactOrigins engine = Engines.withConstants(n);
            engine.setPlaces(U, 1);
            due("addFact of one place", engine.addFact(U, n - 1, 0, 0, 1), 0);
            for (int wrong : new int[] {-1, 1, n, LOWEST, HIGHEST}) {
                due("addFact of one place and " + wrong, engine.addFact(U, 0, wrong, 0, 1), BAD_INDEX);
                for (Asks.Ask ask : Asks.OF_FACT) {
                    due(ask.name() + " of one place and " + wrong, ask.of(engine, U, n - 1, wrong), BAD_INDEX);
                }
            }
            due("addFact of one place and a wrong constant", engine.addFact(U, n, 0, 0, 1), BAD_INDEX);
            due("cost of one place", engine.cost(U, n - 1, 0), 0);
        }
    }

    /** "NOT_POSSIBLE if there is a base fact of this predicate, or it occurs in a rule" */
    private static void placesOfUsedPredicates() {
        for (int predicate = 0; predicate <= 5; predicate++) {
            for (int constant = 0; constant <= 5; constant += 5) {
                FactOrigins engine = Engines.withConstants(6);
                Engines.fact(engine, predicate, constant, constant, 0, 1);
                for (int other = 0; other <= 5; other++) {
                    due("setPlaces of " + other + " where there is a base fact of " + predicate,
                            engine.setPlaces(other, 1), other == predicate ? NOT_POSSIBLE : 2);
                }
                due("one place where there is the base fact", engine.addFact(predicate, 0, 5, 0, 1), 1);
            }
        }
        FactOrigins engine = new FactOrigins();
        for (int i = 0; i < 11; i++) {
            Engines.fact(engine, P, 0, 0, 0, 1);
        }
        Engines.fact(engine, T, 0, 0, 0, 1);
        due("setPlaces of the last base fact's predicate", engine.setPlaces(T, 1), NOT_POSSIBLE);
        engine.begin(4);
        Engines.rule(engine, 1, "q(X,X)<r(X,X),!s(X,X),!t(X,X)");
        int[] answers = {2, NOT_POSSIBLE, NOT_POSSIBLE, NOT_POSSIBLE, NOT_POSSIBLE, 2};
        for (int predicate = 0; predicate <= 5; predicate++) {
            due("setPlaces of " + predicate + " where there is a rule", engine.setPlaces(predicate, 2),
                    answers[predicate]);
        }
        Engines.rule(engine, 1, "q(X,X)<r(X,X)");
        engine.removeRule(0);
        due("setPlaces of a predicate that only a removed rule has", engine.setPlaces(T, 1), 2);
        due("setPlaces of one that another rule has too", engine.setPlaces(R, 1), NOT_POSSIBLE);
        Engines.fillRules(engine, "q(X,X)<r(X,X)");
        engine.removeRule(7);
        Engines.rule(engine, 1, "q(X,X)<p(X,X)");
        due("setPlaces of a predicate of the last rule", engine.setPlaces(P, 1), NOT_POSSIBLE);
    }

    /** "There are at most 12 base facts, numbered from 0 in the order in which they are added" */
    private static void twelveBaseFacts() {
        FactOrigins engine = Engines.withConstants(6);
        for (int i = 0; i < 12; i++) {
            due("facts() before the base fact " + i, engine.facts(), i);
            due("removeFact of one that there is not yet", engine.removeFact(i), BAD_INDEX);
            due("the base fact " + i, engine.addFact(Q, i / 6, i % 6, i, i + 1), i);
        }
        due("a 13th base fact", engine.addFact(Q, 5, 5, 0, 1), FULL);
        due("a 13th base fact that there is already", engine.addFact(Q, 0, 0, 0, 1), FULL);
        due("facts() of 12", engine.facts(), 12);
        due("size() of 12", engine.size(), 12);
        due("removeFact(12)", engine.removeFact(12), BAD_INDEX);
        due("removeFact(-1)", engine.removeFact(-1), BAD_INDEX);
        for (int i = 0; i < 12; i++) {
            due("the number of the base fact " + i, engine.least(Q, i / 6, i % 6, 2), 1 << i);
        }
    }

    /** "if one is removed, the numbers of later ones become 1 less; likewise for base facts" */
    private static void removedBaseFacts() {
        for (int removed = 0; removed < 12; removed++) {
            FactOrigins engine = Engines.withConstants(6);
            Engines.fillFacts(engine, Q);
            due("removeFact(" + removed + ") of 12", engine.removeFact(removed), 11);
            due("facts() then", engine.facts(), 11);
            for (int i = 0; i < 12; i++) {
                String of = "the base fact " + i + " without " + removed;
                int number = i < removed ? i : i - 1;
                due(of, engine.least(Q, i / 6, i % 6, 2), i == removed ? NONE : 1 << number);
                due(of + ", cost", engine.cost(Q, i / 6, i % 6), i == removed ? NONE : i);
                due(of + ", likelihood", engine.likelihood(Q, i / 6, i % 6),
                        i == removed ? NONE : Float.floatToIntBits((i + 1) / 16f));
            }
            due("removeFact(11) of 11", engine.removeFact(11), BAD_INDEX);
            due("a base fact in its place", engine.addFact(P, 0, 0, 50, 16), 11);
            due("the number of the new one", engine.needs(P, 0, 0), 1 << 11);
            due("one more", engine.addFact(P, 0, 0, 50, 16), FULL);
        }
        FactOrigins engine = Engines.withConstants(6);
        Engines.fillFacts(engine, Q);
        for (int left = 11; left >= 0; left--) {
            due("removeFact(0) down to " + left, engine.removeFact(0), left);
        }
        due("removeFact(0) of none", engine.removeFact(0), BAD_INDEX);
        due("facts() of none", engine.facts(), 0);
        due("the first base fact then", engine.addFact(P, 0, 0, 0, 1), 0);
    }

    /** "a base fact has a cost from 0 to 99 and a likelihood of s sixteenths, s from 1 to 16" */
    private static void valuesOfBaseFacts() {
        FactOrigins engine = new FactOrigins();
        int[][] wrong = {{-1, 1}, {100, 1}, {LOWEST, 1}, {HIGHEST, 1}, {0, 0}, {99, 17}, {0, -1}, {0, LOWEST},
            {0, HIGHEST}, {-1, 0}, {100, 17}};
        for (int[] pair : wrong) {
            due("addFact of the cost " + pair[0] + " and " + pair[1] + " sixteenths",
                    engine.addFact(P, 0, 0, pair[0], pair[1]), BAD_VALUE);
        }
        int[][] right = {{0, 1}, {0, 16}, {99, 1}, {99, 16}};
        for (int i = 0; i < right.length; i++) {
            due("addFact of the cost " + right[i][0], engine.addFact(P, 0, i, right[i][0], right[i][1]), i);
            due("its cost", engine.cost(P, 0, i), right[i][0]);
            due("its likelihood", engine.likelihood(P, 0, i), Float.floatToIntBits(right[i][1] / 16f));
        }
    }

    // ---- Rules

    /** "There are at most 8 rules, numbered from 0 in the order in which they are added" */
    private static void eightRules() {
        FactOrigins engine = new FactOrigins();
        Engines.fact(engine, Q, 0, 0, 0, 1);
        for (int r = 0; r < 8; r++) {
            due("rules() before the rule " + r, engine.rules(), r);
            due("removeRule of one that there is not yet", engine.removeRule(r), BAD_INDEX);
            Engines.write(engine, headOf(r) + "<q(0,0)");
            due("the rule " + r, engine.addRule(r + 1), r);
        }
        due("a ninth rule", engine.addRule(1), FULL);
        due("rules() of 8", engine.rules(), 8);
        due("removeRule(8)", engine.removeRule(8), BAD_INDEX);
        due("removeRule(-1)", engine.removeRule(-1), BAD_INDEX);
        due("size() of 8 rules", engine.size(), 9);
        for (int r = 0; r < 8; r++) {
            due("the number of the rule " + r, engine.least(S, r / 4, r % 4, 0), r);
            due("the cost of the rule " + r, engine.cost(S, r / 4, r % 4), r + 1);
        }
    }

    private static String headOf(int rule) {
        return "s(" + rule / 4 + "," + rule % 4 + ")";
    }

    /** "if one is removed, the numbers of later ones become 1 less" */
    private static void removedRules() {
        for (int removed = 0; removed < 8; removed++) {
            FactOrigins engine = new FactOrigins();
            Engines.fact(engine, Q, 0, 0, 0, 1);
            for (int r = 0; r < 8; r++) {
                Engines.rule(engine, r + 1, headOf(r) + "<q(0,0)");
            }
            due("removeRule(" + removed + ") of 8", engine.removeRule(removed), 7);
            due("rules() then", engine.rules(), 7);
            for (int r = 0; r < 8; r++) {
                String of = "the rule " + r + " without " + removed;
                int number = r < removed ? r : r - 1;
                due(of, engine.least(S, r / 4, r % 4, 0), r == removed ? NONE : number);
                due(of + ", cost", engine.cost(S, r / 4, r % 4), r == removed ? NONE : r + 1);
            }
            due("removeRule(7) of 7", engine.removeRule(7), BAD_INDEX);
            Engines.write(engine, "t(0,0)<q(0,0)");
            due("a rule in its place", engine.addRule(9), 7);
            due("the number of the new one", engine.least(T, 0, 0, 0), 7);
            due("one more", engine.addRule(9), FULL);
        }
        FactOrigins engine = new FactOrigins();
        Engines.fillRules(engine, "p(X,Y)<q(X,Y)");
        for (int left = 7; left >= 0; left--) {
            due("removeRule(0) down to " + left, engine.removeRule(0), left);
        }
        due("removeRule(0) of none", engine.removeRule(0), BAD_INDEX);
        due("rules() of none", engine.rules(), 0);
        due("the first rule then", engine.addRule(1), 0);
    }

    /** "A rule has a cost from 1 to 9" */
    private static void rulePrices() {
        FactOrigins engine = new FactOrigins();
        Engines.write(engine, "p(0,0)<!q(0,0)");
        for (int wrong : new int[] {0, 10, -1, LOWEST, HIGHEST}) {
            due("addRule(" + wrong + ")", engine.addRule(wrong), BAD_VALUE);
        }
        due("rules() then", engine.rules(), 0);
        due("addRule(9)", engine.addRule(9), 0);
        due("the cost by the rule of 9", engine.cost(P, 0, 0), 9);
        due("addRule(1)", engine.addRule(1), 1);
        due("the cost by the rule of 1", engine.cost(P, 0, 0), 1);
    }

    /** "a body of 1 to 3 literals; a literal is an atom or a negated atom" */
    private static void bodies() {
        String[] right = {"p(0,0)<q(1,1)", "p(0,0)<!q(1,1)", "p(0,0)<q(1,1),r(1,1)", "p(0,0)<!q(1,1),!r(1,1)",
            "p(0,0)<q(1,1),r(1,1),s(1,1)", "p(0,0)<!q(1,1),!r(1,1),!s(1,1)"};
        for (String text : right) {
            FactOrigins engine = new FactOrigins();
            due("the fault of " + text, Engines.fault(engine, text), NONE);
            due("addRule of " + text, engine.addRule(1), 0);
        }
        String[] wrong = {"p(0,0)", "p(0,0)<", "p(0,0)<q(1,1),r(1,1),s(1,1),t(1,1)",
            "p(0,0)<!q(1,1),!r(1,1),!s(1,1),!t(1,1)"};
        int[] faults = {6, 7, 27, 30};
        for (int i = 0; i < wrong.length; i++) {
            FactOrigins engine = new FactOrigins();
            due("the fault of " + wrong[i], Engines.fault(engine, wrong[i]), faults[i]);
            due("addRule of " + wrong[i], engine.addRule(1), NOT_POSSIBLE);
        }
    }

    /** "An instance holds if its literals that are not negated are all in the model and its negated atoms are not." */
    private static void allLiteralsCount() {
        String[] rules = {"t(1,1)<q(1,1),r(1,1),s(1,1)", "t(1,1)<!q(1,1),!r(1,1),!s(1,1)",
            "t(1,1)<!q(1,1),r(1,1),!s(1,1)", "t(1,1)<q(1,1),!r(1,1),s(1,1)", "t(1,1)<q(1,1),!r(1,1),!s(1,1)"};
        int[] holdsAt = {0b111, 0b000, 0b010, 0b101, 0b001};
        for (int i = 0; i < rules.length; i++) {
            for (int present = 0; present < 8; present++) {
                FactOrigins engine = Engines.withConstants(2);
                for (int k = 0; k < 3; k++) {
                    if ((present >> k & 1) != 0) {
                        Engines.fact(engine, Q + k, 1, 1, 10 << k, 16 >> k);
                    }
                }
                Engines.rule(engine, 1, rules[i]);
                boolean holds = present == holdsAt[i];
                String of = rules[i] + " where there are " + present;
                due("instances of " + of, engine.instances(T, 1, 1), holds ? 1 : 0);
                due("cost of " + of, engine.cost(T, 1, 1), holds ? 1 + 10 * present : NONE);
                due("round of " + of, engine.round(T, 1, 1), holds ? 1 : NONE);
            }
        }
    }

    // ---- Model

    /** The stratum is "a number from 0 on"; "If there are no such numbers, the rules are not stratified". */
    private static void strata() {
        FactOrigins engine = new FactOrigins();
        String[] rules = {"u(0,0)<!t(0,0)", "t(0,0)<!s(0,0)", "s(0,0)<!r(0,0)", "r(0,0)<!q(0,0)", "q(0,0)<!p(0,0)"};
        for (String text : rules) {
            Engines.rule(engine, 1, text);
        }
        for (int predicate = 0; predicate <= 5; predicate++) {
            due("the stratum of a step " + predicate, engine.stratum(predicate), predicate);
            due("each second one is there", engine.count(predicate), predicate % 2);
        }
        due("rounds of each second stratum", engine.rounds(), 3);
        due("the round of the highest stratum", engine.round(U, 0, 0), 3);
        Engines.fact(engine, P, 0, 0, 0, 1);
        due("the highest stratum is empty then", engine.round(U, 0, 0), NONE);
        due("without the base fact it is not", engine.holdsWithout(1, U, 0, 0), 1);
        Engines.write(engine, "p(0,0)<u(0,0)");
        due("a rule that closes the circle is taken", engine.addRule(1), 5);
        due("the model then", engine.size(), NO_MODEL);
        FactOrigins circle = new FactOrigins();
        for (int predicate = 0; predicate <= 5; predicate++) {
            char head = (char) ('p' + (predicate + 1) % 6);
            char body = (char) ('p' + predicate);
            Engines.rule(circle, 1, head + "(X,Y)<" + body + "(X,Y)");
        }
        for (int predicate = 0; predicate <= 5; predicate++) {
            due("a circle of all without negation", circle.stratum(predicate), 0);
        }
        circle.removeRule(5);
        Engines.rule(circle, 1, "p(X,Y)<p(Y,X),!u(X,Y)");
        due("a circle of all with one negation", circle.stratum(P), NO_MODEL);
        FactOrigins self = new FactOrigins();
        Engines.rule(self, 1, "p(0,0)<!p(1,1)");
        due("a rule that negates its own predicate", self.size(), NO_MODEL);
    }

    /** "If none is new, the stratum is done (such a round does not count)." "numbered from 1 on, through all strata" */
    private static void roundsThatCount() {
        FactOrigins engine = new FactOrigins();
        Engines.fact(engine, Q, 0, 1, 0, 1);
        Engines.fact(engine, P, 0, 1, 0, 1);
        due("rounds() without rules", engine.rounds(), 0);
        Engines.rule(engine, 1, "p(X,Y)<q(X,Y)");
        due("rounds() where nothing is new", engine.rounds(), 0);
        due("the instance holds", engine.instances(P, 0, 1), 1);
        due("round of what is derived, too", engine.round(P, 0, 1), 0);
        Engines.rule(engine, 1, "r(X,Y)<q(Y,X),!s(X,Y)");
        Engines.rule(engine, 1, "s(X,Y)<q(X,Y)");
        due("rounds() of two strata", engine.rounds(), 2);
        due("the first round", engine.round(S, 0, 1), 1);
        due("the round of the next stratum", engine.round(R, 1, 0), 2);
    }

    /** "All base facts are there from the beginning. The round of a base fact is 0" */
    private static void baseFactsFromTheBeginning() {
        FactOrigins engine = new FactOrigins();
        Engines.rule(engine, 1, "p(X,X)<q(X,X),!s(X,X)");
        Engines.rule(engine, 1, "r(X,X)<p(X,X)");
        Engines.rule(engine, 1, "t(X,X)<q(X,X),!p(X,X)");
        Engines.facts(engine, Q, new int[][] {{0, 0}, {1, 1}}, 0, 1);
        Engines.fact(engine, P, 1, 1, 0, 1);
        Engines.fact(engine, P, 2, 2, 0, 1);
        due("a base fact of a higher stratum", engine.round(P, 2, 2), 0);
        due("a base fact that is derived there", engine.round(P, 1, 1), 0);
        due("what follows from a base fact", engine.round(R, 2, 2), 1);
        due("what follows from a derived one", engine.round(R, 0, 0), 2);
        due("no fact that is negated", engine.count(T), 0);
        Engines.fact(engine, S, 0, 0, 0, 1);
        due("a fact that a base fact negates", engine.round(P, 0, 0), NONE);
        due("one that it doesn't", engine.round(P, 1, 1), 0);
        due("one that follows then", engine.round(T, 0, 0), 2);
    }

    // ---- Provenance

    /** "if that is above 1000000, the cost counts as 1000001, and the fact has no least derivation" */
    private static void costsAtTheLimit() {
        FactOrigins engine = Engines.doubling();
        for (int i = 0; i < 4; i++) {
            Engines.fact(engine, R, i, i, 88 + i, 16);
        }
        Engines.rule(engine, 1, "s(X,X)<t(2,2),t(0,3),r(X,X)");
        Engines.rule(engine, 2, "u(X,X)<s(X,X)");
        Engines.rule(engine, 9, "p(X,X)<s(X,X),s(X,X),s(X,X)");
        int[] costs = {999999, 1000000, 1000001, 1000001};
        for (int i = 0; i < 4; i++) {
            boolean above = i > 1;
            due("the cost with " + i + " more", engine.cost(S, i, i), costs[i]);
            due("its rule", engine.least(S, i, i, 0), above ? NONE : 2);
            due("its facts and heads", engine.least(S, i, i, 1), above ? NONE : (3 << 14) - 2 + (3 << 3) - 2 + 2);
            due("its base facts", engine.least(S, i, i, 2), above ? NONE : 0b111111 | 1 << 6 + i);
            due("what it needs", engine.needs(S, i, i), 0b111111 | 1 << 6 + i);
            due("where it is cut", engine.cut(S, i, i), 1);
            due("a cost of two more", engine.cost(U, i, i), 1000001);
            due("no least derivation of that", engine.least(U, i, i, 1), NONE);
            due("a cost of three times", engine.cost(P, i, i), 1000001);
            due("no least derivation of that", engine.least(P, i, i, 0), NONE);
            due("its round", engine.round(P, i, i), engine.round(S, i, i) + 1);
        }
        Engines.fact(engine, S, 3, 3, 99, 1);
        due("a base fact that is cheaper", engine.cost(S, 3, 3), 99);
        due("it is the least derivation", engine.least(S, 3, 3, 0), 8);
        due("what follows from it", engine.cost(U, 3, 3), 101);
        due("its rule then", engine.least(U, 3, 3, 0), 3);
        due("three times of it", engine.cost(P, 3, 3), 9 + 3 * 99);
        due("its facts and heads then", engine.least(P, 3, 3, 1), 4);
    }

    /** "(That of one literal is taken as it is; without any it is 1.)"; a product may come down to 0. */
    private static void likelihoodsAtTheEnds() {
        FactOrigins engine = Engines.withConstants(6);
        Engines.fact(engine, U, 5, 5, 0, 1);
        Engines.fact(engine, U, 5, 5, 0, 16);
        Engines.fact(engine, Q, 0, 0, 0, 3);
        Engines.rule(engine, 1, "p(0,0)<!q(1,1),q(0,0)");
        Engines.rule(engine, 1, "p(1,1)<!q(1,1),!q(2,2)");
        due("the greatest likelihood", engine.likelihood(U, 5, 5), Float.floatToIntBits(1f));
        due("that of one literal", engine.likelihood(P, 0, 0), Float.floatToIntBits(3 / 16f));
        due("that of none", engine.likelihood(P, 1, 1), Float.floatToIntBits(1f));
        engine.removeFact(1);
        due("the least likelihood", engine.likelihood(U, 5, 5), Float.floatToIntBits(1 / 16f));
        FactOrigins small = Engines.doubling(14);
        Engines.rule(small, 1, "s(0,0)<t(1,3),t(1,1),t(0,4)");
        float[] squares = new float[12];
        squares[0] = 14 / 16f;
        for (int k = 1; k < squares.length; k++) {
            squares[k] = squares[k - 1] * squares[k - 1];
        }
        float product = squares[9] * squares[7] * squares[4];
        due("a product just below the normal floats", product < Float.MIN_NORMAL ? 1 : 0, 1);
        due("its likelihood", small.likelihood(S, 0, 0), Float.floatToIntBits(product));
        FactOrigins doubling = Engines.doubling();
        due("the last that is above 0", doubling.likelihood(T, 0, 5), Float.floatToIntBits(0x1p-128f));
        due("one that is 0", doubling.likelihood(T, 1, 0), 0);
        due("it is in the model all the same", doubling.round(T, 1, 0), 6);
    }

    /** "8 if this is a base fact"; "what: 0 .. 1 .. 2"; "of several the one with the lowest number" */
    private static void leastDerivations() {
        FactOrigins engine = new FactOrigins();
        for (int i = 0; i < 12; i++) {
            Engines.fact(engine, Q, 0, 0, i < 5 ? 6 : 5, 1);
        }
        due("the lowest of the cheapest base facts", engine.least(Q, 0, 0, 2), 1 << 5);
        due("the rule of a base fact", engine.least(Q, 0, 0, 0), 8);
        due("a base fact is one", engine.least(Q, 0, 0, 1), 1);
        for (int wrong : new int[] {-1, 3, LOWEST, HIGHEST}) {
            due("least of " + wrong, engine.least(Q, 0, 0, wrong), BAD_VALUE);
            due("least of " + wrong + " of no fact", engine.least(Q, 0, 1, wrong), BAD_VALUE);
        }
        Engines.fillRules(engine, "p(X,X)<q(X,X)");
        due("the lowest rule", engine.least(P, 0, 0, 0), 0);
        engine.begin(1);
        for (int r = 0; r < 8; r++) {
            Engines.rule(engine, 9 - r, "p(0,0)<!q(0,0)");
        }
        due("the last rule", engine.least(P, 0, 0, 0), 7);
        due("a head alone is one", engine.least(P, 0, 0, 1), 1);
        due("it uses no base fact", engine.least(P, 0, 0, 2), 0);
    }

    /** needs: "without each of which alone"; cut: "the smallest set", NONE "if there is no such set of at most 3" */
    private static void smallestSets() {
        for (int set = 0; set < 1 << 12; set++) {
            int members = Integer.bitCount(set);
            if (members == 0 || members > 4) {
                continue;
            }
            FactOrigins engine = Engines.withConstants(6);
            for (int i = 0; i < 12; i++) {
                boolean member = (set >> i & 1) != 0;
                Engines.fact(engine, member ? P : Q, member ? 0 : i / 6, member ? 0 : i % 6, 0, 1);
            }
            due("needs of a fact of " + set, engine.needs(P, 0, 0), members == 1 ? set : 0);
            due("cut of a fact of " + set, engine.cut(P, 0, 0), members <= 3 ? set : NONE);
            due("sizeWithout(" + set + ")", engine.sizeWithout(set), 12 - members);
            due("holdsWithout(" + set + ")", engine.holdsWithout(set, P, 0, 0), 0);
        }
        FactOrigins engine = new FactOrigins();
        for (int i = 0; i < 12; i++) {
            Engines.fact(engine, P, 0, 0, 0, 1);
        }
        due("needs of 12 of the same", engine.needs(P, 0, 0), 0);
        due("cut of 12 of the same", engine.cut(P, 0, 0), NONE);
        Engines.rule(engine, 1, "q(0,0)<!r(0,0)");
        due("needs of a fact without base facts", engine.needs(Q, 0, 0), 0);
        due("cut of a fact without base facts", engine.cut(Q, 0, 0), NONE);
        engine.begin(6);
        Engines.fillFacts(engine, Q);
        Engines.rule(engine, 1, "p(0,0)<q(0,0),q(0,1),q(0,2)");
        Engines.rule(engine, 1, "r(0,0)<q(0,3),q(0,4),q(0,5)");
        Engines.rule(engine, 1, "s(0,0)<q(1,0),q(1,1),q(1,2)");
        Engines.rule(engine, 1, "t(0,0)<q(1,3),q(1,4),q(1,5)");
        Engines.rule(engine, 1, "p(1,1)<p(0,0),r(0,0),s(0,0)");
        Engines.rule(engine, 1, "u(0,0)<p(1,1),t(0,0)");
        due("needs of all", engine.needs(U, 0, 0), 0b111111111111);
        due("cut of what needs all", engine.cut(U, 0, 0), 1);
    }

    /** "of several of the same size the one that is lexicographically first as an ascending sequence of numbers" */
    private static void orderOfSets() {
        due("0 and 11 before 1 and 2", cutOfTwo(0b100000000001, 0b000000000110), 0b100000000001);
        due("the same the other way round", cutOfTwo(0b000000000110, 0b100000000001), 0b100000000001);
        due("1 and 11 before 2 and 3", cutOfTwo(0b000000001100, 0b100000000010), 0b100000000010);
        due("1 and 10 before 2 and 11", cutOfTwo(0b010000000010, 0b100000000100), 0b010000000010);
        due("11 before 0 and 1", cutOfTwo(0b100000000000, 0b000000000011), 0b100000000000);
        due("10 before 11", cutOfTwo(0b100000000000, 0b010000000000), 0b010000000000);
        due("10 and 11 before 0, 1 and 2", cutOfTwo(0b110000000000, 0b000000000111), 0b110000000000);
        due("0, 10 and 11 before 1, 2 and 3", cutOfTwo(0b110000000001, 0b000000001110), 0b110000000001);
        due("9, 10 and 11 before four", cutOfTwo(0b111000000000, 0b000000001111), 0b111000000000);
        due("four and five", cutOfTwo(0b111100000000, 0b000000011111), NONE);
        FactOrigins engine = Engines.withConstants(6);
        int[] predicates = {S, Q, R, R, U, U, U, U, U, U, U, Q};
        for (int predicate : predicates) {
            Engines.fact(engine, predicate, 0, 0, 0, 1);
        }
        Engines.rule(engine, 1, "q(0,0)<s(0,0)");
        Engines.rule(engine, 1, "r(0,0)<s(0,0)");
        Engines.rule(engine, 1, "p(0,0)<q(0,0),r(0,0)");
        due("0, 1 and 11 before 0, 2 and 3", engine.cut(P, 0, 0), 0b100000000011);
    }

    /** "Base facts that are deleted .. do not change which negated atoms are in the model, except where it is said." */
    private static void negatedAtomsAndDeletions() {
        FactOrigins engine = new FactOrigins();
        Engines.facts(engine, Q, new int[][] {{0, 1}, {0, 2}}, 0, 1);
        Engines.rule(engine, 1, "u(0,0)<q(0,1)");
        Engines.rule(engine, 1, "u(0,0)<q(0,2),!q(0,1)");
        due("needs: the negated atom stays", engine.needs(U, 0, 0), 0b1);
        due("cut: the negated atom stays", engine.cut(U, 0, 0), 0b1);
        due("holdsWithout: it goes", engine.holdsWithout(0b1, U, 0, 0), 1);
        due("sizeWithout: it goes", engine.sizeWithout(0b1), 2);
        due("without both", engine.sizeWithout(0b11), 0);
        due("instances: as the model is", engine.instances(U, 0, 0), 1);
    }

    /** The cut of p(0,0), which needs one base fact of the first set and one of the second. */
    private static int cutOfTwo(int first, int second) {
        FactOrigins engine = new FactOrigins();
        for (int i = 0; i < 12; i++) {
            int predicate = (first >> i & 1) != 0 ? Q : (second >> i & 1) != 0 ? R : U;
            Engines.fact(engine, predicate, 0, 0, 0, 1);
        }
        Engines.rule(engine, 1, "p(0,0)<q(0,0),r(0,0)");
        return engine.cut(P, 0, 0);
    }

    // ---- The text

    /** "The text has at most 60 bytes."; letter: 0 to 127; clearText: "the length that it had" */
    private static void textLengths() {
        FactOrigins engine = new FactOrigins();
        due("clearText() of an empty text", engine.clearText(), 0);
        due("the fault of an empty text", engine.faultPosition(), 0);
        due("addRule of an empty text", engine.addRule(1), NOT_POSSIBLE);
        for (int wrong : new int[] {-1, 128, LOWEST, HIGHEST}) {
            due("append(" + wrong + ")", engine.append(wrong), BAD_VALUE);
        }
        due("the length then", engine.clearText(), 0);
        String longest = "p(0,0)<!q(0,0),!r(0,0),!s(0,0)";
        for (int i = 0; i < 60; i++) {
            due("append " + i, engine.append(i < 30 ? longest.charAt(i) : i), i + 1);
            if (i == 29) {
                due("the fault of 30 bytes that are a rule", engine.faultPosition(), NONE);
            }
        }
        due("append to 60 bytes", engine.append('p'), FULL);
        due("append of 0 to 60 bytes", engine.append(0), FULL);
        due("append of 127 to 60 bytes", engine.append(127), FULL);
        due("the fault of 60 bytes", engine.faultPosition(), 30);
        due("addRule of 60 bytes", engine.addRule(1), NOT_POSSIBLE);
        due("clearText() of 60 bytes", engine.clearText(), 60);
        due("the fault then", engine.faultPosition(), 0);
        due("append(0)", engine.append(0), 1);
        due("append(127)", engine.append(127), 2);
        due("the fault of a text that starts with 0", engine.faultPosition(), 0);
        due("clearText() of 2 bytes", engine.clearText(), 2);
    }

    /** "the first byte with which the text does not follow this form": each byte at each place of a rule. */
    private static void lettersOfTheForm() {
        String whole = "p(X,1)<q(X,Y),!u(Y),r(Y,Z)";
        String predicates = "pqrstu";
        String terms = "XYZ0123";
        List<String> allowed = List.of(predicates, "(", terms, ",", terms, ")", "<", predicates + "!", "(", terms,
                ",", terms, ")", ",", predicates + "!", predicates, "(", terms, ")", ",", predicates + "!", "(",
                terms, ",", terms, ")", "");
        for (int i = 0; i < allowed.size(); i++) {
            for (int letter = 0; letter <= 127; letter++) {
                FactOrigins engine = new FactOrigins();
                engine.setPlaces(U, 1);
                int fault = Engines.fault(engine, whole.substring(0, i) + (char) letter);
                boolean fits = allowed.get(i).indexOf(letter) >= 0;
                boolean ends = letter == ')' && (i == 12 || i == 18 || i == 25);
                due("the fault of the byte " + letter + " at " + i, fault, !fits ? i : ends ? NONE : i + 1);
            }
        }
    }

    /** "a constant that there is not is a fault" */
    private static void digitsOfTheForm() {
        for (int n = 1; n <= 6; n++) {
            for (int digit = 0; digit <= 9; digit++) {
                FactOrigins engine = Engines.withConstants(n);
                engine.setPlaces(U, 1);
                boolean there = digit < n;
                String of = digit + " where n is " + n;
                due("the first " + of, Engines.fault(engine, "p(" + digit + ",0)<u(0)"), there ? NONE : 2);
                due("the second " + of, Engines.fault(engine, "p(0," + digit + ")<u(0)"), there ? NONE : 4);
                due("the only " + of, Engines.fault(engine, "p(0,0)<u(" + digit + ")"), there ? NONE : 9);
                due("the negated " + of, Engines.fault(engine, "p(0,0)<!u(" + digit + ")"), there ? NONE : 10);
            }
        }
    }

    /** "or its length if it ends too early"; "a comma behind the third literal" is a fault. */
    private static void endsOfTheForm() {
        String whole = "u(X)<p(X,1),!u(2),!r(X,X)";
        for (int length = 0; length <= whole.length(); length++) {
            FactOrigins engine = new FactOrigins();
            engine.setPlaces(U, 1);
            boolean ends = length == 11 || length == 17 || length == 25;
            due("the fault of the first " + length, Engines.fault(engine, whole.substring(0, length)),
                    ends ? NONE : length);
            due("addRule of the first " + length, engine.addRule(1), ends ? 0 : NOT_POSSIBLE);
        }
        for (String more : new String[] {",", ",r(X,X)", ")", "<", " ", "p"}) {
            FactOrigins engine = new FactOrigins();
            engine.setPlaces(U, 1);
            due("the fault of a rule and " + more, Engines.fault(engine, whole + more), 25);
        }
    }

    /** "a comma where an atom has its only term, a parenthesis where a second term is due" are faults. */
    private static void termsOfAnAtom() {
        String[] texts = {"u(X,Y)<p(X,Y)", "u(X,", "p(X)<p(X,Y)", "p(X,)<p(X,Y)", "p()<p(X,Y)", "u()<p(X,Y)",
            "p(,X)<p(X,Y)", "u(X)<u(X,X)", "u(X)<p(X)", "u(X)<p(X,)", "u(X)<!u(0,0)", "u(X)<!p(0)", "p(X,Y,Z)<p(X,Y)",
            "u(XY)<p(X,Y)", "p(XY)<p(X,Y)"};
        int[] faults = {3, 3, 3, 4, 2, 2, 2, 8, 8, 9, 9, 9, 5, 3, 3};
        for (int i = 0; i < texts.length; i++) {
            FactOrigins engine = new FactOrigins();
            engine.setPlaces(U, 1);
            due("the fault of " + texts[i], Engines.fault(engine, texts[i]), faults[i]);
            due("addRule of " + texts[i], engine.addRule(1), NOT_POSSIBLE);
        }
    }

    /** "If the form is right, but a variable occurs in no literal that is not negated, the fault is .. that" */
    private static void variablesWithoutLiteral() {
        for (char variable = 'X'; variable <= 'Z'; variable++) {
            String[] texts = {"p(V,0)<q(0,0)", "p(0,V)<q(0,0)", "p(0,0)<!q(V,0)", "p(0,0)<q(0,0),!q(0,V)",
                "p(0,V)<!q(V,V)", "p(V,0)<q(V,0)", "p(0,V)<q(0,V)", "p(0,0)<!q(V,V),q(V,0)",
                "p(0,0)<!q(V,V),q(0,0),q(0,V)", "p(V,V)<q(0,0),q(0,V)", "p(0,0)<q(V,V)"};
            int[] faults = {2, 4, 10, 19, 4, NONE, NONE, NONE, NONE, NONE, NONE};
            for (int i = 0; i < texts.length; i++) {
                String text = texts[i].replace('V', variable);
                due("the fault of " + text, Engines.fault(new FactOrigins(), text), faults[i]);
            }
        }
        FactOrigins engine = new FactOrigins();
        due("the first of two variables", Engines.fault(engine, "p(0,0)<q(X,0),!r(Z,Y)"), 17);
        due("the first of two, the other way", Engines.fault(engine, "p(0,0)<q(X,0),!r(Y,Z)"), 17);
        due("a head's variable before a body's", Engines.fault(engine, "p(X,Z)<q(X,0),!r(Y,0)"), 4);
        due("a fault of the form before that", Engines.fault(engine, "p(X,Z)<q(X,0),!r(Y,0),"), 22);
        due("a variable of another literal", Engines.fault(engine, "p(X,Z)<q(X,0),!r(Y,0),s(Y,Y)"), 4);
    }

    /** clearText "Empties the text": nothing of a longer text is seen behind a shorter one. */
    private static void textsAfterLongerOnes() {
        String whole = "p(Y,Z)<q(Y,Z),r(Y,Z),s(Y,Z)";
        for (char before : new char[] {'X', ',', ')', '<', 'Y'}) {
            for (int length = 0; length <= whole.length(); length++) {
                FactOrigins engine = new FactOrigins();
                for (int i = 0; i < 60; i++) {
                    engine.append(before);
                }
                boolean ends = length == 13 || length == 20 || length == 27;
                due("the fault of the first " + length + " after 60 of " + before,
                        Engines.fault(engine, whole.substring(0, length)), ends ? NONE : length);
            }
        }
    }

    /** The form depends on n and the places as they are when the text is looked at. */
    private static void faultFollowsTheState() {
        FactOrigins engine = new FactOrigins();
        due("a text of n = 4", Engines.fault(engine, "p(3,0)<q(0,0)"), NONE);
        engine.save(0);
        engine.begin(3);
        due("the same of n = 3", engine.faultPosition(), 2);
        due("addRule of n = 3", engine.addRule(1), NOT_POSSIBLE);
        engine.setPlaces(P, 1);
        engine.restore(0);
        due("the same as restored", engine.faultPosition(), NONE);
        engine.setPlaces(P, 1);
        due("the same of one place", engine.faultPosition(), 3);
        engine.setPlaces(P, 2);
        engine.setPlaces(Q, 1);
        due("the same of another's one place", engine.faultPosition(), 10);
        engine.begin(4);
        due("the same after begin", engine.faultPosition(), NONE);
        due("addRule after begin", engine.addRule(1), 0);
        due("the text stays", engine.faultPosition(), NONE);
    }

    // ---- The promises

    /** Promise 1: "without base facts and rules, with an empty text and empty slots" */
    private static void emptyEngine() {
        FactOrigins engine = new FactOrigins();
        due("facts()", engine.facts(), 0);
        due("rules()", engine.rules(), 0);
        due("size()", engine.size(), 0);
        due("rounds()", engine.rounds(), 0);
        due("sizeWithout(0)", engine.sizeWithout(0), 0);
        due("sizeWithout(highest)", engine.sizeWithout(HIGHEST), 0);
        due("holdsWithout(highest)", engine.holdsWithout(HIGHEST, P, 0, 0), 0);
        due("removeFact(0)", engine.removeFact(0), BAD_INDEX);
        due("removeRule(0)", engine.removeRule(0), BAD_INDEX);
        due("faultPosition()", engine.faultPosition(), 0);
        due("clearText()", engine.clearText(), 0);
        due("restore(0)", engine.restore(0), NOT_POSSIBLE);
        due("restore(1)", engine.restore(1), NOT_POSSIBLE);
        int[] answers = {NONE, 0, NONE, NONE, NONE, NONE, NONE, NONE, NONE, 0};
        for (int predicate = 0; predicate <= 5; predicate++) {
            due("stratum(" + predicate + ")", engine.stratum(predicate), 0);
            due("count(" + predicate + ")", engine.count(predicate), 0);
            for (int i = 0; i < answers.length; i++) {
                due(Asks.OF_FACT.get(i).name(), Asks.OF_FACT.get(i).of(engine, predicate, 3, 3), answers[i]);
            }
        }
    }

    /** Promise 2: "no base facts and no rules, and all predicates have two places. The text and the slots stay." */
    private static void beginAnew() {
        for (int n = 1; n <= 6; n++) {
            FactOrigins engine = Engines.withConstants(6);
            Engines.fillFacts(engine, Q);
            for (int predicate = 2; predicate <= 5; predicate++) {
                engine.setPlaces(predicate, 1);
            }
            Engines.fillRules(engine, "p(X,Y)<q(X,Y)");
            engine.save(1);
            long saved = engine.checksum();
            due("size() before", engine.size(), 24);
            due("begin(" + n + ") of a full engine", engine.begin(n), 6);
            due("facts() then", engine.facts(), 0);
            due("rules() then", engine.rules(), 0);
            due("size() then", engine.size(), 0);
            due("sizeWithout(0) then", engine.sizeWithout(0), 0);
            for (int predicate = 0; predicate <= 5; predicate++) {
                due("the places then", engine.setPlaces(predicate, 2), 2);
            }
            due("the text stays", engine.faultPosition(), NONE);
            due("it is the same text", engine.addRule(1), 0);
            due("the slot stays empty", engine.restore(0), NOT_POSSIBLE);
            due("the other slot stays full", engine.restore(1), 8);
            due("with all that it had", engine.checksum(), saved);
        }
    }

    /** Promises 14 and 15, from an empty model to a full one. */
    private static void sizesAndCounts() {
        for (int n = 1; n <= 6; n++) {
            FactOrigins engine = Engines.withConstants(n);
            engine.setPlaces(U, 1);
            Engines.rule(engine, 1, "p(X,Y)<q(X,X),q(Y,Y)");
            Engines.rule(engine, 1, "u(Y)<p(X,Y)");
            due("size() of nothing", engine.size(), 0);
            for (int i = 0; i < n; i++) {
                Engines.fact(engine, Q, i, i, 0, 1);
            }
            due("size() of " + n, engine.size(), n * n + 2 * n);
            due("count of two places", engine.count(P), n * n);
            due("count of one place", engine.count(U), n);
            due("count of base facts", engine.count(Q), n);
            due("count of none", engine.count(T), 0);
        }
    }

    /** Promises 24 and 25: "there may be bits for base facts that there are not"; "BAD_VALUE if it is negative" */
    private static void setsWithout() {
        FactOrigins engine = Engines.withConstants(6);
        Engines.fillFacts(engine, Q);
        due("sizeWithout(0) of 12", engine.sizeWithout(0), 12);
        for (int i = 0; i < 31; i++) {
            due("sizeWithout of the bit " + i, engine.sizeWithout(1 << i), i < 12 ? 11 : 12);
            int fact = Math.min(i, 11);
            due("holdsWithout of the bit " + i, engine.holdsWithout(1 << i, Q, fact / 6, fact % 6), i < 12 ? 0 : 1);
        }
        due("sizeWithout of all 12", engine.sizeWithout(0b111111111111), 0);
        due("sizeWithout of all bits", engine.sizeWithout(HIGHEST), 0);
        due("sizeWithout of all other bits", engine.sizeWithout(HIGHEST ^ 0b111111111111), 12);
        due("holdsWithout of all bits", engine.holdsWithout(HIGHEST, Q, 0, 0), 0);
        due("holdsWithout of none", engine.holdsWithout(0, Q, 0, 0), 1);
        for (int wrong : new int[] {-1, LOWEST, LOWEST + 1}) {
            due("sizeWithout(" + wrong + ")", engine.sizeWithout(wrong), BAD_VALUE);
            due("holdsWithout(" + wrong + ")", engine.holdsWithout(wrong, Q, 0, 0), BAD_VALUE);
        }
        due("size() is as before", engine.size(), 12);
        engine.removeFact(11);
        due("sizeWithout of a bit that has no base fact now", engine.sizeWithout(1 << 11), 11);
        due("sizeWithout of that and another bit", engine.sizeWithout(1 << 11 | 1), 10);
        Engines.fact(engine, Q, 5, 5, 0, 1);
        due("sizeWithout of the bit of a new base fact", engine.sizeWithout(1 << 11), 11);
    }

    /** Promises 26 and 27: "slot: 0 or 1"; "NOT_POSSIBLE if nothing has been saved in the slot" */
    private static void slotNumbers() {
        FactOrigins engine = new FactOrigins();
        for (int wrong : new int[] {-1, 2, LOWEST, HIGHEST}) {
            due("save(" + wrong + ")", engine.save(wrong), BAD_INDEX);
            due("restore(" + wrong + ")", engine.restore(wrong), BAD_INDEX);
        }
        for (int slot = 0; slot < 2; slot++) {
            FactOrigins other = new FactOrigins();
            due("save(" + slot + ")", other.save(slot), 0);
            due("restore of the empty slot", other.restore(1 - slot), NOT_POSSIBLE);
            due("restore(" + slot + ")", other.restore(slot), 0);
            due("restore of the empty slot again", other.restore(1 - slot), NOT_POSSIBLE);
        }
    }

    /** Promises 26 and 27 with 12 base facts and 8 rules. */
    private static void fullSlots() {
        for (int slot = 0; slot < 2; slot++) {
            FactOrigins engine = Engines.withConstants(6);
            engine.setPlaces(U, 1);
            Engines.fillFacts(engine, Q);
            for (int r = 0; r < 8; r++) {
                Engines.rule(engine, r + 2, headOf(r) + "<q(1,5),!t(0," + r % 6 + "),!u(" + r % 6 + ")");
            }
            long full = engine.checksum();
            due("save of a full engine", engine.save(slot), 8);
            engine.begin(6);
            for (int i = 0; i < 12; i++) {
                Engines.fact(engine, P, i / 6, i % 6, 50, 16);
            }
            Engines.fillRules(engine, "r(0,0)<p(5,5)");
            due("restore of a full engine", engine.restore(slot), 8);
            due("facts() then", engine.facts(), 12);
            due("rules() then", engine.rules(), 8);
            due("checksum() then", engine.checksum(), full);
            due("the last base fact", engine.least(Q, 1, 5, 2), 1 << 11);
            due("its cost", engine.cost(Q, 1, 5), 11);
            due("its likelihood", engine.likelihood(Q, 1, 5), Float.floatToIntBits(12 / 16f));
            due("the last rule", engine.least(S, 1, 3, 0), 7);
            due("its cost", engine.cost(S, 1, 3), 9 + 11);
            due("one more base fact", engine.addFact(Q, 0, 0, 0, 1), FULL);
            due("one more rule", engine.addRule(1), FULL);
            due("what was there before", engine.count(P), 0);
            due("a place that there is not", engine.round(U, 0, 1), BAD_INDEX);
            due("the n that is restored", engine.begin(4), 6);
        }
    }

    /** "in place of what the slot keeps"; "The slot keeps them."; the slots keep no text. */
    private static void slotsApart() {
        FactOrigins engine = new FactOrigins();
        Engines.fact(engine, P, 0, 0, 1, 1);
        Engines.rule(engine, 1, "q(X,Y)<p(X,Y)");
        due("save(0) of one rule", engine.save(0), 1);
        Engines.rule(engine, 2, "r(X,Y)<p(X,Y)");
        Engines.fact(engine, P, 1, 0, 2, 2);
        due("save(1) of two rules", engine.save(1), 2);
        long two = engine.checksum();
        due("restore(0)", engine.restore(0), 1);
        long one = engine.checksum();
        due("facts() of slot 0", engine.facts(), 1);
        Engines.rule(engine, 3, "s(X,Y)<p(X,Y)");
        engine.removeFact(0);
        due("restore(1)", engine.restore(1), 2);
        due("slot 1 is as it was", engine.checksum(), two);
        engine.removeRule(0);
        due("restore(0) again", engine.restore(0), 1);
        due("slot 0 is as it was", engine.checksum(), one);
        Engines.write(engine, "t(X,Y)<p(X,Y)");
        engine.restore(1);
        due("the text stays", engine.addRule(1), 2);
        due("save(0) in place of what it keeps", engine.save(0), 3);
        due("restore(1) then", engine.restore(1), 2);
        due("slot 1 keeps what it has", engine.checksum(), two);
        due("restore(0) then", engine.restore(0), 3);
        due("slot 0 has the new rule", engine.least(T, 0, 0, 0), 2);
        Engines.makeUnstratified(engine);
        due("save without a model", engine.save(1), 5);
        engine.begin(2);
        due("restore without a model", engine.restore(1), 5);
        due("the model then", engine.size(), NO_MODEL);
        due("restore of one with a model", engine.restore(0), 3);
        due("its model", engine.size(), 8);
    }

    /** Promise 28: "for all facts of the model, in the order of predicates, then of first constants, then of second" */
    private static void firstAndLastOfChecksum() {
        FactOrigins engine = Engines.withConstants(6);
        int[][] facts = {{U, 5, 5}, {P, 0, 0}, {U, 5, 4}, {P, 5, 0}, {P, 0, 5}, {U, 0, 5}};
        for (int i = 0; i < facts.length; i++) {
            Engines.fact(engine, facts[i][0], facts[i][1], facts[i][2], 10 + i, 3 + i);
        }
        long h = 89;
        for (int value : new int[] {6, 6, 0, 6, 0, 0, 0, 0, 0, 0, 0}) {
            h = 31 * h + value;
        }
        for (int i : new int[] {1, 4, 3, 5, 2, 0}) {
            for (int value : new int[] {0, 0, 10 + i, Float.floatToIntBits((3 + i) / 16f), 8, 1, 1 << i}) {
                h = 31 * h + value;
            }
        }
        due("checksum() of the first and the last fact", engine.checksum(), h);
        FactOrigins empty = Engines.withConstants(1);
        long none = 89;
        for (int value : new int[] {1, 0, 0, 0, 0, 0, 0, 0, 0, 0, 0}) {
            none = 31 * none + value;
        }
        due("checksum() of an empty model", empty.checksum(), none);
    }

    /** Promise 28: "(as longs, with overflow)"; a model of all 216 facts, added up from the other answers. */
    private static void longSums() {
        BigInteger h = BigInteger.valueOf(89);
        FactOrigins engine = allFacts();
        for (int value : new int[] {6, 6, 7, 216, engine.rounds(), 0, 0, 0, 0, 0, 0}) {
            h = step(h, value);
        }
        for (int atom = 0; atom < 216; atom++) {
            // An object is used for at most 512 calls, so each predicate is asked of a new one.
            engine = atom % 36 == 0 ? allFacts() : engine;
            for (Asks.Ask ask : Asks.OF_FACT.subList(0, 7)) {
                h = step(h, ask.of(engine, atom / 36, atom / 6 % 6, atom % 6));
            }
        }
        due("checksum() of 216 facts", engine.checksum(), h.longValue());
        due("the sum is longer than a long", h.bitLength() > 64 ? 1 : 0, 1);
    }

    private static FactOrigins allFacts() {
        FactOrigins engine = Engines.withConstants(6);
        for (int i = 0; i < 6; i++) {
            Engines.fact(engine, R, i, i, 10 + i, 16 - i);
        }
        Engines.rule(engine, 2, "p(X,Y)<r(X,X),r(Y,Y)");
        for (char head : new char[] {'q', 'r', 's', 't', 'u'}) {
            Engines.rule(engine, 3, head + "(X,Y)<p(X,Y)");
        }
        Engines.rule(engine, 1, "u(X,Z)<u(X,Y),u(Y,Z),u(Z,X)");
        return engine;
    }

    private static BigInteger step(BigInteger h, int value) {
        return h.multiply(BigInteger.valueOf(31)).add(BigInteger.valueOf(value));
    }

    /** "An object is used for at most 512 calls": the last of them is answered as the first. */
    private static void fiveHundredAndTwelveCalls() {
        FactOrigins engine = new FactOrigins();
        due("call 1", engine.addFact(P, 0, 0, 1, 16), 0);
        for (int call = 2; call < 512; call += 2) {
            due("call " + call, engine.addFact(P, 0, 0, 0, 1), 1);
            due("call " + (call + 1), engine.removeFact(1), 1);
        }
        due("call 512", engine.cost(P, 0, 0), 1);
    }
}
