/** Each promise of the document, with ordinary inputs, the edges that it names, and wrong inputs. */
public final class PromisesTest implements Names {
    private static final Check CHECK = new Check("PromisesTest");

    private PromisesTest() {
    }

    public static void main(String[] args) {
        constants();
        newObject();
        begin();
        setPlaces();
        addFact();
        removeFact();
        removeRule();
        text();
        faultOfForm();
        faultOfVariables();
        addRule();
        stratum();
        modelSizes();
        rounds();
        instances();
        cost();
        costAboveTheLimit();
        likelihood();
        smallLikelihoods();
        least();
        needs();
        cut();
        deletions();
        slots();
        checksum();
        errorsChangeNothing();
        mostInstances();
        firstAndLastAtom();
        changesAreSeen();
        CHECK.end();
    }

    private static void due(String call, long got, long want) {
        CHECK.due(call, got, want);
    }

    private static void constants() {
        due("BAD_INDEX", FactOrigins.BAD_INDEX, BAD_INDEX);
        due("BAD_VALUE", FactOrigins.BAD_VALUE, BAD_VALUE);
        due("NOT_POSSIBLE", FactOrigins.NOT_POSSIBLE, NOT_POSSIBLE);
        due("FULL", FactOrigins.FULL, FULL);
        due("NONE", FactOrigins.NONE, NONE);
        due("NO_MODEL", FactOrigins.NO_MODEL, NO_MODEL);
    }

    // Promise 1, and of promises 6 and 8 what an empty engine answers.
    private static void newObject() {
        FactOrigins engine = new FactOrigins();
        due("new: facts()", engine.facts(), 0);
        due("new: rules()", engine.rules(), 0);
        due("new: size()", engine.size(), 0);
        due("new: rounds()", engine.rounds(), 0);
        due("new: restore(0)", engine.restore(0), NOT_POSSIBLE);
        due("new: restore(1)", engine.restore(1), NOT_POSSIBLE);
        due("new: faultPosition()", engine.faultPosition(), 0);
        due("new: clearText()", engine.clearText(), 0);
        due("new: round(0, 3, 3)", engine.round(P, 3, 3), NONE);
        due("new: round(0, 4, 0)", engine.round(P, 4, 0), BAD_INDEX);
        for (int predicate = 0; predicate < 6; predicate++) {
            due("new: setPlaces", engine.setPlaces(predicate, 2), 2);
            due("new: stratum", engine.stratum(predicate), 0);
            due("new: count", engine.count(predicate), 0);
        }
        due("new: begin(4)", engine.begin(4), 4);
    }

    // Promise 2
    private static void begin() {
        FactOrigins engine = new FactOrigins();
        engine.setPlaces(U, 1);
        Engines.fact(engine, Q, 1, 2, 3, 4);
        Engines.rule(engine, 1, "p(X,Y)<q(X,Y)");
        engine.save(1);
        for (int wrong : new int[] {0, -1, 7, LOWEST, HIGHEST}) {
            due("begin(" + wrong + ")", engine.begin(wrong), BAD_VALUE);
        }
        due("facts() after a refused begin", engine.facts(), 1);
        due("size() after a refused begin", engine.size(), 2);
        due("begin(6)", engine.begin(6), 4);
        due("facts() after begin", engine.facts(), 0);
        due("rules() after begin", engine.rules(), 0);
        due("size() after begin", engine.size(), 0);
        due("the places after begin", engine.setPlaces(U, 2), 2);
        due("a new constant", engine.addFact(P, 5, 5, 0, 1), 0);
        due("the text stays", engine.clearText(), 13);
        due("begin(1)", engine.begin(1), 6);
        due("a constant that is gone", engine.addFact(P, 1, 0, 0, 1), BAD_INDEX);
        due("the slots stay", engine.restore(1), 1);
        due("begin(2) after restore", engine.begin(2), 4);
    }

    // Promise 3
    private static void setPlaces() {
        FactOrigins engine = new FactOrigins();
        due("setPlaces(-1, 3)", engine.setPlaces(-1, 3), BAD_INDEX);
        due("setPlaces(6, 1)", engine.setPlaces(6, 1), BAD_INDEX);
        for (int wrong : new int[] {0, 3, -1, LOWEST, HIGHEST}) {
            due("setPlaces(0, " + wrong + ")", engine.setPlaces(P, wrong), BAD_VALUE);
        }
        due("setPlaces(0, 1)", engine.setPlaces(P, 1), 2);
        due("setPlaces(0, 1) again", engine.setPlaces(P, 1), 1);
        due("setPlaces(0, 2)", engine.setPlaces(P, 2), 1);
        Engines.fact(engine, Q, 3, 3, 0, 1);
        due("a predicate with a base fact", engine.setPlaces(Q, 2), NOT_POSSIBLE);
        due("a wrong value comes first", engine.setPlaces(Q, 0), BAD_VALUE);
        Engines.rule(engine, 1, "p(X,Y)<q(X,Y),r(X,Y),!s(X,Y)");
        for (int predicate = 0; predicate < 4; predicate++) {
            due("a predicate of a rule", engine.setPlaces(predicate, 1), NOT_POSSIBLE);
        }
        due("a predicate of no rule", engine.setPlaces(T, 1), 2);
        engine.removeRule(0);
        due("a predicate of a removed rule", engine.setPlaces(S, 1), 2);
        due("a predicate still with a base fact", engine.setPlaces(Q, 1), NOT_POSSIBLE);
        engine.removeFact(0);
        due("a predicate of a removed base fact", engine.setPlaces(Q, 1), 2);
    }

    // Promises 4 and 6
    private static void addFact() {
        FactOrigins engine = new FactOrigins();
        engine.setPlaces(U, 1);
        int[][] badIndex = {{-1, 0, 0}, {6, 0, 0}, {P, -1, 0}, {P, 4, 0}, {P, 0, -1}, {P, 0, 4}, {U, 0, 1},
            {U, 4, 0}, {U, 0, -1}, {HIGHEST, 0, 0}, {LOWEST, 0, 0}, {P, HIGHEST, LOWEST}};
        for (int[] wrong : badIndex) {
            due("addFact of a wrong index", engine.addFact(wrong[0], wrong[1], wrong[2], -1, 0), BAD_INDEX);
        }
        int[][] badValue = {{-1, 1}, {100, 1}, {0, 0}, {0, 17}, {LOWEST, 1}, {0, HIGHEST}};
        for (int[] wrong : badValue) {
            due("addFact of a wrong value", engine.addFact(P, 0, 0, wrong[0], wrong[1]), BAD_VALUE);
        }
        due("facts() after errors", engine.facts(), 0);
        due("addFact of the edges", engine.addFact(U, 3, 0, 99, 16), 0);
        for (int i = 1; i < 12; i++) {
            due("the same fact again", engine.addFact(P, 3, 3, 0, 1), i);
        }
        due("a 13th base fact", engine.addFact(P, 0, 0, 0, 1), FULL);
        due("a wrong value comes first", engine.addFact(P, 0, 0, 100, 1), BAD_VALUE);
        due("a wrong index comes first", engine.addFact(U, 0, 1, 0, 1), BAD_INDEX);
        due("facts()", engine.facts(), 12);
        due("size()", engine.size(), 2);
    }

    // Promise 5
    private static void removeFact() {
        FactOrigins engine = new FactOrigins();
        due("removeFact without base facts", engine.removeFact(0), BAD_INDEX);
        Engines.fact(engine, P, 0, 0, 1, 1);
        Engines.fact(engine, P, 1, 1, 2, 2);
        Engines.fact(engine, P, 2, 2, 3, 3);
        for (int wrong : new int[] {-1, 3, 12, LOWEST, HIGHEST}) {
            due("removeFact(" + wrong + ")", engine.removeFact(wrong), BAD_INDEX);
        }
        due("size() before", engine.size(), 3);
        due("removeFact(0)", engine.removeFact(0), 2);
        due("size() after", engine.size(), 2);
        due("facts()", engine.facts(), 2);
        due("the removed one", engine.cost(P, 0, 0), NONE);
        due("a later one's cost", engine.cost(P, 1, 1), 2);
        due("a later one's likelihood", engine.likelihood(P, 2, 2), Float.floatToIntBits(3 / 16f));
        due("a later one's number", engine.least(P, 1, 1, 2), 1);
        due("the last one's number", engine.least(P, 2, 2, 2), 2);
        due("removeFact(1)", engine.removeFact(1), 1);
        due("the last one is gone", engine.round(P, 2, 2), NONE);
        due("removeFact(0) of the last", engine.removeFact(0), 0);
    }

    // Promises 7 and 8
    private static void removeRule() {
        FactOrigins engine = new FactOrigins();
        due("removeRule without rules", engine.removeRule(0), BAD_INDEX);
        Engines.fact(engine, Q, 0, 1, 1, 8);
        Engines.rule(engine, 5, "p(X,Y)<q(X,Y)");
        Engines.rule(engine, 4, "r(X,Y)<q(Y,X)");
        Engines.rule(engine, 3, "s(X,X)<q(X,Y),!r(X,Y)");
        due("rules()", engine.rules(), 3);
        for (int wrong : new int[] {-1, 3, 8, LOWEST, HIGHEST}) {
            due("removeRule(" + wrong + ")", engine.removeRule(wrong), BAD_INDEX);
        }
        due("size() before", engine.size(), 4);
        due("removeRule(0)", engine.removeRule(0), 2);
        due("size() after", engine.size(), 3);
        due("the head of the removed one", engine.round(P, 0, 1), NONE);
        due("the next one's number", engine.least(R, 1, 0, 0), 0);
        due("the next one's cost", engine.cost(R, 1, 0), 5);
        due("the last one's number", engine.least(S, 0, 0, 0), 1);
        due("the last one's cost", engine.cost(S, 0, 0), 4);
        due("removeRule(1)", engine.removeRule(1), 1);
        due("removeRule(0) of the last", engine.removeRule(0), 0);
        due("rules() then", engine.rules(), 0);
    }

    // Promises 9 and 10
    private static void text() {
        FactOrigins engine = new FactOrigins();
        for (int wrong : new int[] {-1, 128, LOWEST, HIGHEST}) {
            due("append(" + wrong + ")", engine.append(wrong), BAD_VALUE);
        }
        due("append(0)", engine.append(0), 1);
        due("append(127)", engine.append(127), 2);
        due("clearText()", engine.clearText(), 2);
        due("clearText() again", engine.clearText(), 0);
        for (int i = 1; i <= 60; i++) {
            due("append " + i, engine.append('p'), i);
        }
        due("append of too much", engine.append('p'), FULL);
        due("a wrong value comes first", engine.append(128), BAD_VALUE);
        due("the fault of a full text", engine.faultPosition(), 1);
        due("clearText() of a full text", engine.clearText(), 60);
        due("append after that", engine.append('p'), 1);
    }

    private static void dueFault(FactOrigins engine, String text, int want) {
        due("the fault of " + text, Engines.fault(engine, text), want);
    }

    // Promise 11, the form
    private static void faultOfForm() {
        FactOrigins engine = new FactOrigins();
        engine.setPlaces(U, 1);
        dueFault(engine, "", 0);
        String whole = "p(X,1)<q(X,Y),!u(Y),r(Y,Z)";
        dueFault(engine, whole, NONE);
        for (int length = 0; length < whole.length(); length++) {
            boolean ruleEnds = length == 13 || length == 19;
            dueFault(engine, whole.substring(0, length), ruleEnds ? NONE : length);
        }
        for (int i = 0; i < whole.length(); i++) {
            dueFault(engine, whole.substring(0, i) + "?" + whole.substring(i + 1), i);
        }
        dueFault(engine, whole + ",", 26);
        dueFault(engine, whole + ",s(X,X)", 26);
        dueFault(engine, whole + ")", 26);
        dueFault(engine, "p(X,Y)<q(X,Y)<", 13);
        dueFault(engine, "p(X,Y)<q(X,Y) ", 13);
        dueFault(engine, "p(X,Y)<q(X,Y),,", 14);
        dueFault(engine, "!p(X,Y)<q(X,Y)", 0);
        dueFault(engine, "p(X,Y)<!!q(X,Y)", 8);
        dueFault(engine, "p(X,Y)<!", 8);
        dueFault(engine, "p(X,Y)<q(X,Y),!", 15);
        dueFault(engine, "o(X,Y)<q(X,Y)", 0);
        dueFault(engine, "v(X,Y)<q(X,Y)", 0);
        dueFault(engine, "P(X,Y)<q(X,Y)", 0);
        dueFault(engine, "p(W,Y)<q(X,Y)", 2);
        dueFault(engine, "p([,Y)<q(X,Y)", 2);
        dueFault(engine, "p(x,Y)<q(X,Y)", 2);
        dueFault(engine, "p(/,Y)<q(X,Y)", 2);
        dueFault(engine, "u(X,", 3);
        dueFault(engine, "p(X)<q(X,X)", 3);
        dueFault(engine, "p(0,3)<q(0,3)", NONE);
        dueFault(engine, "p(0,4)<q(0,0)", 4);
        dueFault(engine, "p(00)<q(0,0)", 3);
        engine.begin(6);
        dueFault(engine, "p(0,5)<q(0,5)", NONE);
        dueFault(engine, "p(0,6)<q(0,0)", 4);
        dueFault(engine, "u(X)<q(X,X)", 3);
        dueFault(engine, "p(9,0)<q(0,0)", 2);
        engine.begin(1);
        due("the fault of the same text then", Engines.fault(engine, "p(0,1)<q(0,0)"), 4);
        engine.begin(2);
        due("the fault after another begin", engine.faultPosition(), NONE);
    }

    // Promise 11, the variables
    private static void faultOfVariables() {
        FactOrigins engine = new FactOrigins();
        dueFault(engine, "p(X,Y)<q(X,X)", 4);
        dueFault(engine, "p(X,Y)<q(Y,Z)", 2);
        dueFault(engine, "p(Z,Y)<q(X,X)", 2);
        dueFault(engine, "p(0,1)<!q(X,1)", 10);
        dueFault(engine, "p(0,1)<!q(X,1),r(X,Y)", NONE);
        dueFault(engine, "p(0,1)<!q(X,Z),r(X,Y)", 12);
        dueFault(engine, "p(X,X)<!q(X,X)", 2);
        dueFault(engine, "p(X,Y)<q(X,0),!r(Y,Y),s(Z,Z)", 4);
        dueFault(engine, "p(X,Y)<q(X,0),!r(Z,Y),s(Y,Y)", 17);
        dueFault(engine, "p(X,Y)<q(X,0),!r(Z,Z),s(Y,Y),", 28);
        dueFault(engine, "p(0,0)<!q(1,1)", NONE);
        dueFault(engine, "p(0,0)<q(X,Y)", NONE);
        engine.setPlaces(U, 1);
        dueFault(engine, "u(Y)<u(X),!u(Y)", 2);
        dueFault(engine, "u(X)<u(X),!u(Y)", 13);
    }

    // Promise 12
    private static void addRule() {
        FactOrigins engine = new FactOrigins();
        for (int wrong : new int[] {0, 10, -1, LOWEST, HIGHEST}) {
            due("addRule(" + wrong + ")", engine.addRule(wrong), BAD_VALUE);
        }
        due("addRule of an empty text", engine.addRule(1), NOT_POSSIBLE);
        Engines.write(engine, "p(X,Y)<q(X,X)");
        due("addRule of an unbound variable", engine.addRule(9), NOT_POSSIBLE);
        Engines.write(engine, "p(X,Y)<q(Y,X)");
        for (int r = 0; r < 8; r++) {
            due("addRule " + r, engine.addRule(1 + r), r);
        }
        due("a ninth rule", engine.addRule(9), FULL);
        due("a wrong value comes first", engine.addRule(10), BAD_VALUE);
        due("the text stays", engine.append('?'), 14);
        due("a fault comes first", engine.addRule(9), NOT_POSSIBLE);
        due("rules()", engine.rules(), 8);
        Engines.fact(engine, Q, 0, 1, 10, 16);
        due("the cheapest rule counts", engine.cost(P, 1, 0), 11);
        due("each of the same rules has instances", engine.instances(P, 1, 0), 8);
        engine.removeRule(0);
        due("the next cheapest", engine.cost(P, 1, 0), 12);
    }

    // Promise 13
    private static void stratum() {
        FactOrigins engine = new FactOrigins();
        due("stratum(-1)", engine.stratum(-1), BAD_INDEX);
        due("stratum(6)", engine.stratum(6), BAD_INDEX);
        Engines.rule(engine, 1, "p(X,Y)<q(X,Y),!r(X,Y)");
        Engines.rule(engine, 1, "r(X,Y)<q(X,Y),!s(X,Y)");
        Engines.rule(engine, 1, "s(X,Y)<q(X,Y),!t(X,Y)");
        Engines.rule(engine, 1, "t(X,Y)<q(X,Y),!u(X,Y)");
        Engines.rule(engine, 1, "u(X,Y)<q(X,Y)");
        int[] due = {4, 0, 3, 2, 1, 0};
        for (int predicate = 0; predicate < 6; predicate++) {
            due("stratum(" + predicate + ")", engine.stratum(predicate), due[predicate]);
        }
        Engines.rule(engine, 1, "u(X,Y)<q(X,Y),!q(Y,X)");
        due("the highest stratum", engine.stratum(P), 5);
        Engines.rule(engine, 1, "u(X,Y)<u(Y,X),p(X,Y)");
        due("a circle through negations", engine.stratum(P), NO_MODEL);
        due("a predicate outside the circle", engine.stratum(Q), NO_MODEL);
        due("a wrong index comes first", engine.stratum(6), BAD_INDEX);
        engine.removeRule(6);
        due("without the circle", engine.stratum(U), 1);
        engine.begin(2);
        Engines.rule(engine, 1, "p(X,Y)<q(X,Y)");
        Engines.rule(engine, 1, "q(X,Y)<p(X,Y)");
        Engines.rule(engine, 1, "q(X,Y)<r(X,Y),!s(X,Y)");
        due("a circle without negations", engine.stratum(P), 1);
        due("its other predicate", engine.stratum(Q), 1);
        Engines.rule(engine, 1, "t(0,0)<!t(1,1)");
        due("a predicate that negates itself", engine.stratum(P), NO_MODEL);
    }

    // Promises 14 and 15
    private static void modelSizes() {
        FactOrigins engine = new FactOrigins();
        engine.setPlaces(U, 1);
        Engines.facts(engine, Q, new int[][] {{0, 1}, {1, 2}, {0, 1}}, 1, 16);
        Engines.rule(engine, 1, "u(X)<q(X,Y)");
        Engines.rule(engine, 1, "p(X,Y)<u(X),u(Y)");
        due("size()", engine.size(), 8);
        due("count(q)", engine.count(Q), 2);
        due("count(u)", engine.count(U), 2);
        due("count(p)", engine.count(P), 4);
        due("count(r)", engine.count(R), 0);
        due("count(-1)", engine.count(-1), BAD_INDEX);
        due("count(6)", engine.count(6), BAD_INDEX);
        due("count(lowest)", engine.count(LOWEST), BAD_INDEX);
        Engines.makeUnstratified(engine);
        due("size() without a model", engine.size(), NO_MODEL);
        due("count(q) without a model", engine.count(Q), NO_MODEL);
        due("count(6) without a model", engine.count(6), BAD_INDEX);
        engine.begin(6);
        Engines.rule(engine, 1, "p(X,Y)<r(X,X),r(Y,Y)");
        Engines.rule(engine, 1, "q(X,Y)<p(X,Y)");
        Engines.rule(engine, 1, "s(X,Y)<p(X,Y)");
        Engines.rule(engine, 1, "t(X,Y)<p(X,Y)");
        Engines.rule(engine, 1, "u(X,Y)<p(X,Y)");
        Engines.rule(engine, 1, "r(X,Y)<p(X,Y)");
        for (int i = 0; i < 6; i++) {
            Engines.fact(engine, R, i, i, 0, 16);
        }
        due("the greatest model", engine.size(), 216);
        due("all facts of a predicate", engine.count(R), 36);
    }

    // Promises 16 and 17
    private static void rounds() {
        FactOrigins engine = new FactOrigins();
        Engines.facts(engine, Q, new int[][] {{0, 1}, {1, 2}, {2, 3}}, 1, 16);
        due("rounds() of base facts", engine.rounds(), 0);
        Engines.rule(engine, 1, "p(X,Z)<p(X,Y),q(Y,Z)");
        Engines.rule(engine, 1, "p(X,Y)<q(X,Y)");
        Engines.rule(engine, 1, "q(X,Y)<q(X,Y)");
        due("rounds()", engine.rounds(), 3);
        due("round of a base fact that is derived too", engine.round(Q, 0, 1), 0);
        due("round(p,0,1)", engine.round(P, 0, 1), 1);
        due("round(p,0,2)", engine.round(P, 0, 2), 2);
        due("round(p,0,3)", engine.round(P, 0, 3), 3);
        due("round(p,3,0)", engine.round(P, 3, 0), NONE);
        due("round(p,0,4)", engine.round(P, 0, 4), BAD_INDEX);
        due("round(6,0,0)", engine.round(6, 0, 0), BAD_INDEX);
        Engines.rule(engine, 1, "r(X,X)<q(X,Y),!q(Y,Y)");
        Engines.rule(engine, 1, "s(X,Y)<q(X,Y),!p(Y,X)");
        Engines.rule(engine, 1, "t(X,Y)<s(X,Y),!r(X,Y)");
        due("rounds() through strata", engine.rounds(), 5);
        due("the round of a higher stratum", engine.round(S, 2, 3), 4);
        due("the round of the highest stratum", engine.round(T, 2, 3), 5);
        Engines.makeUnstratified(engine);
        due("rounds() without a model", engine.rounds(), NO_MODEL);
        due("round without a model", engine.round(Q, 0, 1), NO_MODEL);
        due("a wrong index comes first", engine.round(Q, 0, -1), BAD_INDEX);
        FactOrigins longest = Engines.doubling();
        due("a round for each step", longest.rounds(), 35);
        due("the last step", longest.round(T, 5, 5), 35);
        // Heads of one round do not see each other, whatever the order of the rules is.
        longest.begin(2);
        Engines.fact(longest, P, 0, 0, 0, 16);
        Engines.rule(longest, 1, "q(0,0)<p(0,0)");
        Engines.rule(longest, 1, "r(0,0)<q(0,0)");
        due("the round behind the first", longest.round(R, 0, 0), 2);
    }

    // Promise 18
    private static void instances() {
        FactOrigins engine = new FactOrigins();
        Engines.facts(engine, Q, new int[][] {{0, 1}, {0, 2}, {1, 3}, {2, 3}}, 1, 16);
        Engines.rule(engine, 1, "p(X,Z)<q(X,Y),q(Y,Z)");
        due("two ways", engine.instances(P, 0, 3), 2);
        due("a fact that is not there", engine.instances(P, 3, 0), 0);
        due("a base fact alone", engine.instances(Q, 0, 1), 0);
        Engines.rule(engine, 1, "p(X,Z)<p(X,Z)");
        due("a way over itself", engine.instances(P, 0, 3), 3);
        Engines.rule(engine, 1, "r(0,0)<q(X,Y),!p(X,Y)");
        due("negations that hold", engine.instances(R, 0, 0), 4);
        Engines.fact(engine, P, 0, 1, 0, 1);
        due("one negation less", engine.instances(R, 0, 0), 3);
        Engines.rule(engine, 1, "s(1,1)<!p(1,1),!r(1,1)");
        due("an instance without variables", engine.instances(S, 1, 1), 1);
        due("instances of a wrong index", engine.instances(S, 1, 4), BAD_INDEX);
        Engines.makeUnstratified(engine);
        due("instances without a model", engine.instances(P, 0, 3), NO_MODEL);
        due("a wrong index without a model", engine.instances(-1, 0, 3), BAD_INDEX);
    }

    // Promise 19
    private static void cost() {
        FactOrigins engine = new FactOrigins();
        Engines.fact(engine, Q, 0, 1, 7, 16);
        Engines.fact(engine, Q, 0, 1, 5, 16);
        Engines.fact(engine, Q, 0, 1, 6, 16);
        Engines.fact(engine, R, 0, 1, 0, 16);
        due("the cheapest base fact", engine.cost(Q, 0, 1), 5);
        Engines.rule(engine, 2, "p(X,Y)<q(X,Y),q(X,Y)");
        due("a fact that occurs twice", engine.cost(P, 0, 1), 12);
        Engines.rule(engine, 9, "p(X,Y)<r(X,Y)");
        due("another rule that is cheaper", engine.cost(P, 0, 1), 9);
        Engines.rule(engine, 4, "q(X,Y)<r(X,Y)");
        due("a rule cheaper than the base fact", engine.cost(Q, 0, 1), 4);
        Engines.rule(engine, 3, "s(2,2)<!p(2,2)");
        due("a negation costs nothing", engine.cost(S, 2, 2), 3);
        due("not in the model", engine.cost(S, 0, 0), NONE);
        due("a wrong index", engine.cost(S, 0, 4), BAD_INDEX);
        // The dear way is found in an early round, the cheap one later.
        Engines.fact(engine, T, 0, 0, 99, 16);
        Engines.rule(engine, 1, "u(X,X)<t(X,X)");
        Engines.rule(engine, 1, "u(X,X)<p(X,Y)");
        due("a cheaper way of a later round", engine.cost(U, 0, 0), 10);
        Engines.makeUnstratified(engine);
        due("cost without a model", engine.cost(Q, 0, 1), NO_MODEL);
        due("a wrong index without a model", engine.cost(Q, 0, 4), BAD_INDEX);
    }

    // Promises 19 and 21 at 1000000, where a fact loses its least derivation
    private static void costAboveTheLimit() {
        FactOrigins engine = Engines.doubling();
        Engines.fact(engine, R, 0, 0, 89, 16);
        Engines.fact(engine, R, 1, 1, 90, 16);
        Engines.rule(engine, 1, "s(X,X)<t(2,2),t(0,3),r(X,X)");
        due("14 doublings", engine.cost(T, 2, 2), 999423);
        due("three doublings", engine.cost(T, 0, 3), 487);
        due("a cost at the limit", engine.cost(S, 0, 0), 1000000);
        due("its rule", engine.least(S, 0, 0, 0), 2);
        due("its facts and heads", engine.least(S, 0, 0, 1), (3 << 14) - 2 + (3 << 3) - 2 + 2);
        due("its base facts", engine.least(S, 0, 0, 2), 0b1111111);
        due("a cost above the limit", engine.cost(S, 1, 1), 1000001);
        for (int what = 0; what <= 2; what++) {
            due("no least derivation", engine.least(S, 1, 1, what), NONE);
        }
        due("what is wrong comes first", engine.least(S, 1, 1, 3), BAD_VALUE);
        due("a cost far above the limit", engine.cost(T, 5, 5), 1000001);
        due("an instance above the limit", engine.instances(T, 5, 5), 1);
        due("its round", engine.round(T, 5, 5), 35);
        due("what it needs", engine.needs(T, 5, 5), 0b111111);
    }

    private static void dueLikelihood(FactOrigins engine, int predicate, int first, int second, float want) {
        due("likelihood(" + predicate + ", " + first + ", " + second + ")",
                engine.likelihood(predicate, first, second), Float.floatToIntBits(want));
    }

    // Promise 20
    private static void likelihood() {
        FactOrigins engine = new FactOrigins();
        for (int s = 1; s <= 12; s++) {
            Engines.fact(engine, Q, (s - 1) / 4, (s - 1) % 4, 0, s);
        }
        for (int s = 1; s <= 12; s++) {
            dueLikelihood(engine, Q, (s - 1) / 4, (s - 1) % 4, s / 16f);
        }
        Engines.rule(engine, 1, "p(X,Y)<q(X,Y)");
        Engines.rule(engine, 1, "p(0,1)<q(2,3),q(2,2),q(2,1)");
        Engines.rule(engine, 1, "r(X,X)<q(X,X),!p(3,3),q(X,X)");
        Engines.rule(engine, 1, "s(3,3)<!p(3,3)");
        dueLikelihood(engine, P, 2, 3, 12 / 16f);
        dueLikelihood(engine, P, 0, 1, 12 / 16f * (11 / 16f) * (10 / 16f));
        dueLikelihood(engine, R, 1, 1, 36 / 256f);
        dueLikelihood(engine, S, 3, 3, 1f);
        due("not in the model", engine.likelihood(P, 3, 3), NONE);
        due("a wrong index", engine.likelihood(P, 4, 3), BAD_INDEX);
        Engines.makeUnstratified(engine);
        due("likelihood without a model", engine.likelihood(Q, 0, 0), NO_MODEL);
        due("a wrong index without a model", engine.likelihood(P, 4, 3), BAD_INDEX);
        engine.begin(1);
        Engines.fact(engine, P, 0, 0, 0, 3);
        Engines.fact(engine, P, 0, 0, 9, 16);
        Engines.fact(engine, P, 0, 0, 1, 15);
        dueLikelihood(engine, P, 0, 0, 1f);
        due("the least derivation does not count here", engine.least(P, 0, 0, 2), 1);
    }

    // Promise 20, where the floats round, become subnormal, and become 0
    private static void smallLikelihoods() {
        FactOrigins engine = Engines.doubling();
        float want = 1 / 16f;
        for (int k = 0; k < 36; k++) {
            dueLikelihood(engine, T, k / 6, k % 6, want);
            want = want * want;
        }
        due("a subnormal likelihood", engine.likelihood(T, 0, 5), 1 << 21);
        due("a likelihood of 0 is one", engine.likelihood(T, 1, 0), 0);
        engine.begin(6);
        Engines.fact(engine, P, 0, 0, 0, 15);
        Engines.fact(engine, Q, 0, 0, 0, 13);
        Engines.facts(engine, R, new int[][] {{0, 1}, {1, 2}, {2, 3}, {3, 4}, {4, 5}}, 0, 11);
        Engines.rule(engine, 1, "p(Y,Y)<p(X,X),p(X,X),r(X,Y)");
        Engines.rule(engine, 1, "q(Y,Y)<r(X,Y),q(X,X),q(X,X)");
        Engines.rule(engine, 1, "s(X,Y)<p(X,X),q(Y,Y),p(X,X)");
        float[] p = new float[6];
        float[] q = new float[6];
        p[0] = 15 / 16f;
        q[0] = 13 / 16f;
        for (int k = 1; k < 6; k++) {
            p[k] = p[k - 1] * p[k - 1] * (11 / 16f);
            q[k] = 11 / 16f * q[k - 1] * q[k - 1];
        }
        for (int i = 0; i < 6; i++) {
            dueLikelihood(engine, P, i, i, p[i]);
            dueLikelihood(engine, Q, i, i, q[i]);
            for (int j = 0; j < 6; j++) {
                dueLikelihood(engine, S, i, j, p[i] * q[j] * p[i]);
            }
        }
    }

    // Promise 21
    private static void least() {
        FactOrigins engine = new FactOrigins();
        Engines.facts(engine, Q, new int[][] {{0, 1}, {0, 2}, {1, 3}, {2, 3}, {0, 1}}, 4, 16);
        Engines.rule(engine, 9, "p(X,Z)<q(X,Y),q(Y,Z)");
        Engines.rule(engine, 2, "p(X,Z)<q(X,Y),q(Y,Z)");
        Engines.rule(engine, 2, "p(X,Z)<q(X,Y),q(Y,Z)");
        due("the lowest rule of those that are cheapest", engine.least(P, 0, 3, 0), 1);
        due("its facts and heads", engine.least(P, 0, 3, 1), 3);
        due("the lowest constant, and the lowest base fact", engine.least(P, 0, 3, 2), 0b101);
        due("a base fact", engine.least(Q, 0, 1, 0), 8);
        due("a base fact is one", engine.least(Q, 0, 1, 1), 1);
        due("the set of a base fact", engine.least(Q, 2, 3, 2), 0b1000);
        due("what of -1", engine.least(P, 0, 3, -1), BAD_VALUE);
        due("what of 3", engine.least(P, 0, 3, 3), BAD_VALUE);
        due("a wrong index", engine.least(P, 0, 4, 3), BAD_INDEX);
        due("not in the model", engine.least(P, 3, 0, 0), NONE);
        due("not in the model, and what is wrong", engine.least(P, 3, 0, 7), BAD_VALUE);
        Engines.rule(engine, 4, "r(1,1)<!p(1,1)");
        Engines.fact(engine, R, 1, 1, 4, 16);
        due("a base fact of the same cost goes first", engine.least(R, 1, 1, 0), 8);
        engine.removeFact(5);
        Engines.fact(engine, R, 1, 1, 5, 16);
        due("a dearer base fact does not", engine.least(R, 1, 1, 0), 3);
        due("a head alone", engine.least(R, 1, 1, 1), 1);
        due("no base facts", engine.least(R, 1, 1, 2), 0);
        Engines.rule(engine, 1, "s(X,X)<p(X,Y),p(X,Y),q(X,2)");
        due("facts that occur twice", engine.least(S, 0, 0, 1), 8);
        due("the set counts them once", engine.least(S, 0, 0, 2), 0b111);
        Engines.makeUnstratified(engine);
        due("least without a model", engine.least(Q, 0, 1, 0), NO_MODEL);
        due("what is wrong comes before", engine.least(Q, 0, 1, 3), BAD_VALUE);
        leastByConstants();
    }

    private static void leastByConstants() {
        FactOrigins engine = new FactOrigins();
        Engines.facts(engine, Q, new int[][] {{3, 0}, {0, 3}, {2, 1}, {1, 2}, {1, 1}}, 1, 16);
        Engines.rule(engine, 1, "p(0,0)<q(Y,X)");
        due("X goes before Y", engine.least(P, 0, 0, 2), 0b1);
        engine.removeRule(0);
        Engines.rule(engine, 1, "p(0,0)<q(Z,Y)");
        due("Y goes before Z", engine.least(P, 0, 0, 2), 0b1);
        engine.removeRule(0);
        Engines.rule(engine, 1, "p(0,0)<q(X,Z)");
        due("X goes before Z", engine.least(P, 0, 0, 2), 0b10);
        engine.removeFact(1);
        due("the next one by X, then by Z", engine.least(P, 0, 0, 2), 0b1000);
        Engines.fact(engine, Q, 3, 3, 0, 16);
        due("the cost goes before all constants", engine.least(P, 0, 0, 2), 0b10000);
        engine.begin(2);
        Engines.fact(engine, P, 0, 0, 3, 16);
        Engines.fact(engine, P, 0, 0, 2, 16);
        Engines.fact(engine, P, 0, 0, 2, 16);
        due("the cheapest, then the lowest base fact", engine.least(P, 0, 0, 2), 0b10);
    }

    // Promise 22
    private static void needs() {
        FactOrigins engine = new FactOrigins();
        Engines.facts(engine, Q, new int[][] {{0, 1}, {1, 2}, {0, 2}, {2, 3}}, 1, 16);
        Engines.rule(engine, 1, "p(X,Y)<q(X,Y)");
        Engines.rule(engine, 1, "p(X,Z)<p(X,Y),p(Y,Z)");
        due("a base fact needs itself", engine.needs(Q, 0, 1), 0b1);
        due("two ways share nothing", engine.needs(P, 0, 2), 0);
        due("two ways share the last step", engine.needs(P, 0, 3), 0b1000);
        due("one way", engine.needs(P, 1, 3), 0b1010);
        due("not in the model", engine.needs(P, 3, 0), NONE);
        due("a wrong index", engine.needs(P, 4, 0), BAD_INDEX);
        Engines.fact(engine, Q, 2, 3, 50, 1);
        due("two base facts of the same fact", engine.needs(P, 0, 3), 0);
        Engines.rule(engine, 1, "r(X,Y)<q(X,Y),!q(Y,X)");
        due("a negation needs nothing", engine.needs(R, 0, 1), 0b1);
        Engines.rule(engine, 1, "s(3,3)<!q(3,3)");
        due("no base facts at all", engine.needs(S, 3, 3), 0);
        Engines.makeUnstratified(engine);
        due("needs without a model", engine.needs(Q, 0, 1), NO_MODEL);
        due("a wrong index without a model", engine.needs(Q, 0, 7), BAD_INDEX);
        engine.begin(4);
        for (int i = 0; i < 12; i++) {
            Engines.fact(engine, Q, i / 4, i % 4, 0, 1);
        }
        Engines.rule(engine, 1, "p(X,Y)<q(X,Y),q(0,0),q(2,3)");
        due("the last base fact", engine.needs(P, 1, 0), 1 | 1 << 4 | 1 << 11);
        // The model stays as it is where base facts are deleted here, so r(0,1) is no way out.
        Engines.rule(engine, 1, "u(0,0)<q(0,1)");
        Engines.rule(engine, 1, "u(0,0)<q(0,2),!p(3,3),!q(0,1)");
        due("negated atoms do not change", engine.needs(U, 0, 0), 0b10);
    }

    // Promise 23
    private static void cut() {
        FactOrigins engine = new FactOrigins();
        Engines.facts(engine, Q, new int[][] {{0, 1}, {1, 3}, {0, 2}, {2, 3}}, 1, 16);
        Engines.rule(engine, 1, "p(X,Z)<q(X,Y),q(Y,Z)");
        due("the first of four pairs", engine.cut(P, 0, 3), 0b101);
        due("a base fact", engine.cut(Q, 2, 3), 0b1000);
        due("not in the model", engine.cut(P, 3, 0), NONE);
        due("a wrong index", engine.cut(P, 3, 4), BAD_INDEX);
        Engines.fact(engine, Q, 0, 3, 1, 16);
        Engines.rule(engine, 1, "p(X,Y)<q(X,Y)");
        due("the first of four triples", engine.cut(P, 0, 3), 0b10101);
        Engines.fact(engine, Q, 0, 3, 1, 16);
        due("four are too many", engine.cut(P, 0, 3), NONE);
        engine.removeFact(2);
        due("a triple again", engine.cut(P, 0, 3), 0b11001);
        Engines.rule(engine, 1, "r(0,0)<p(X,Y),q(0,1)");
        due("one that all ways share", engine.cut(R, 0, 0), 0b1);
        Engines.rule(engine, 1, "s(3,3)<!q(3,3)");
        due("a fact without base facts", engine.cut(S, 3, 3), NONE);
        Engines.makeUnstratified(engine);
        due("cut without a model", engine.cut(Q, 0, 1), NO_MODEL);
        due("a wrong index without a model", engine.cut(Q, 0, 5), BAD_INDEX);
        engine.begin(4);
        for (int i = 0; i < 12; i++) {
            Engines.fact(engine, i < 9 ? Q : R, i < 9 ? i / 3 : 0, i < 9 ? i % 3 : 0, 0, 1);
        }
        due("the last three base facts", engine.cut(R, 0, 0), 0b111 << 9);
        Engines.rule(engine, 1, "p(0,0)<q(0,0),r(0,0)");
        Engines.rule(engine, 1, "p(0,0)<q(2,2),q(2,1),q(2,0)");
        due("a pair before a triple", engine.cut(P, 0, 0), 1 | 1 << 6);
        Engines.rule(engine, 1, "p(0,0)<q(1,1),q(0,0)");
        due("the same pair", engine.cut(P, 0, 0), 1 | 1 << 6);
        Engines.rule(engine, 1, "p(0,0)<q(1,1),q(1,2)");
        due("a triple in order", engine.cut(P, 0, 0), 1 | 1 << 4 | 1 << 6);
    }

    // Promises 24 and 25
    private static void deletions() {
        FactOrigins engine = new FactOrigins();
        Engines.facts(engine, Q, new int[][] {{0, 1}, {1, 2}, {1, 2}}, 1, 16);
        Engines.rule(engine, 1, "p(X,Z)<q(X,Y),q(Y,Z)");
        Engines.rule(engine, 1, "r(X,X)<q(X,Y),!p(0,2)");
        Engines.rule(engine, 1, "s(0,0)<!r(1,1)");
        due("sizeWithout(0)", engine.sizeWithout(0), 4);
        due("size()", engine.size(), 4);
        due("one of two of the same", engine.sizeWithout(0b10), 4);
        due("both of them", engine.sizeWithout(0b110), 3);
        due("the first", engine.sizeWithout(0b1), 2);
        due("all", engine.sizeWithout(0b111), 1);
        due("all, and others that are not there", engine.sizeWithout(HIGHEST), 1);
        due("only others that are not there", engine.sizeWithout(HIGHEST - 0b111), 4);
        due("sizeWithout(-1)", engine.sizeWithout(-1), BAD_VALUE);
        due("sizeWithout(lowest)", engine.sizeWithout(LOWEST), BAD_VALUE);
        due("the model itself stays", engine.round(P, 0, 2), 1);
        due("a fact that would come", engine.holdsWithout(0b1, R, 1, 1), 1);
        due("a fact that would be there still", engine.holdsWithout(0b110, S, 0, 0), 1);
        due("a fact that would go", engine.holdsWithout(0b1, S, 0, 0), 0);
        due("a fact that would be gone", engine.holdsWithout(0b1, P, 0, 2), 0);
        due("a base fact that is deleted", engine.holdsWithout(0b1, Q, 0, 1), 0);
        due("a base fact of which one is left", engine.holdsWithout(0b100, Q, 1, 2), 1);
        due("a wrong set", engine.holdsWithout(-1, Q, 1, 2), BAD_VALUE);
        due("a wrong index and a wrong set", engine.holdsWithout(-1, Q, 1, 4), BAD_INDEX);
        due("a wrong index", engine.holdsWithout(0, 6, 1, 2), BAD_INDEX);
        engine.removeFact(2);
        due("after a change", engine.holdsWithout(0b110, Q, 1, 2), 0);
        due("after a change, its size", engine.sizeWithout(0b10), 3);
        engine.addFact(Q, 1, 2, 0, 1);
        due("after another change", engine.sizeWithout(0b10), 4);
        Engines.makeUnstratified(engine);
        due("sizeWithout without a model", engine.sizeWithout(0), NO_MODEL);
        due("a wrong set without a model", engine.sizeWithout(-1), BAD_VALUE);
        due("holdsWithout without a model", engine.holdsWithout(0, Q, 0, 1), NO_MODEL);
        due("the same with a wrong set", engine.holdsWithout(-1, Q, 0, 1), BAD_VALUE);
        due("the same with a wrong index", engine.holdsWithout(-1, Q, 0, 9), BAD_INDEX);
    }

    // Promises 26 and 27
    private static void slots() {
        FactOrigins engine = new FactOrigins();
        for (int wrong : new int[] {-1, 2, LOWEST, HIGHEST}) {
            due("save(" + wrong + ")", engine.save(wrong), BAD_INDEX);
            due("restore(" + wrong + ")", engine.restore(wrong), BAD_INDEX);
        }
        engine.begin(5);
        engine.setPlaces(U, 1);
        Engines.fact(engine, U, 4, 0, 7, 3);
        Engines.fact(engine, Q, 4, 4, 8, 5);
        Engines.rule(engine, 6, "p(X,X)<u(X),q(X,X)");
        long before = engine.checksum();
        due("save(0)", engine.save(0), 1);
        due("saving changes nothing", engine.checksum(), before);
        engine.begin(2);
        due("save(1) of an empty engine", engine.save(1), 0);
        Engines.fact(engine, P, 1, 1, 1, 1);
        Engines.rule(engine, 2, "p(X,Y)<p(Y,X)");
        Engines.rule(engine, 2, "q(X,Y)<p(Y,X)");
        due("restore(0)", engine.restore(0), 1);
        due("what is restored", engine.checksum(), before);
        due("the fact's cost", engine.cost(P, 4, 4), 21);
        due("the places", engine.addFact(U, 0, 1, 0, 1), BAD_INDEX);
        due("the text stays", engine.clearText(), 13);
        engine.removeRule(0);
        engine.removeFact(0);
        due("restore(0) again", engine.restore(0), 1);
        due("the slot keeps what it has", engine.checksum(), before);
        due("restore(1)", engine.restore(1), 0);
        due("restore of an empty engine", engine.facts(), 0);
        due("its n", engine.begin(3), 2);
        due("save(0) in place of the other", engine.save(0), 0);
        engine.begin(6);
        due("restore(0) of the new one", engine.restore(0), 0);
        due("its n, too", engine.begin(4), 3);
    }

    // Promise 28
    private static void checksum() {
        FactOrigins engine = new FactOrigins();
        long empty = 89;
        for (int value : new int[] {4, 0, 0, 0, 0, 0, 0, 0, 0, 0, 0}) {
            empty = 31 * empty + value;
        }
        due("checksum() of a new engine", engine.checksum(), empty);
        engine.setPlaces(T, 1);
        Engines.fact(engine, T, 2, 0, 3, 4);
        Engines.fact(engine, Q, 1, 2, 5, 16);
        Engines.rule(engine, 2, "s(X,Y)<q(X,Y),t(Y),!p(X,Y)");
        int[] values = {4, 2, 1, 3, 1, 0, 0, 0, 1, 0, 0,
            0, 0, 5, Float.floatToIntBits(1f), 8, 1, 0b10,
            1, 1, 10, Float.floatToIntBits(0.25f), 0, 3, 0b11,
            0, 0, 3, Float.floatToIntBits(0.25f), 8, 1, 0b1};
        long h = 89;
        for (int value : values) {
            h = 31 * h + value;
        }
        due("checksum() of a small model", engine.checksum(), h);
        due("checksum() again", engine.checksum(), h);
        Engines.rule(engine, 1, "p(X,Y)<s(X,Y)");
        long withoutModel = 89;
        for (int value : new int[] {4, 2, 2, NO_MODEL}) {
            withoutModel = 31 * withoutModel + value;
        }
        due("checksum() without a model", engine.checksum(), withoutModel);
        checksumAboveTheLimit();
    }

    /** The checksum from the answers of the other methods, also where there is no least derivation. */
    private static void checksumAboveTheLimit() {
        FactOrigins engine = Engines.doubling();
        long h = 89;
        h = 31 * h + 6;
        h = 31 * h + engine.facts();
        h = 31 * h + engine.rules();
        h = 31 * h + engine.size();
        h = 31 * h + engine.rounds();
        for (int predicate = 0; predicate < 6; predicate++) {
            h = 31 * h + engine.stratum(predicate);
        }
        for (int code = 0; code < 216; code++) {
            int predicate = code / 36;
            int first = code / 6 % 6;
            int second = code % 6;
            if (engine.round(predicate, first, second) != NONE) {
                h = 31 * h + engine.round(predicate, first, second);
                h = 31 * h + engine.instances(predicate, first, second);
                h = 31 * h + engine.cost(predicate, first, second);
                h = 31 * h + engine.likelihood(predicate, first, second);
                for (int what = 0; what <= 2; what++) {
                    h = 31 * h + engine.least(predicate, first, second, what);
                }
            }
        }
        due("the last fact has no least derivation", engine.least(T, 5, 5, 0), NONE);
        due("checksum() with costs above the limit", engine.checksum(), h);
    }

    private static void errorsChangeNothing() {
        FactOrigins engine = new FactOrigins();
        Engines.fact(engine, Q, 0, 1, 5, 16);
        Engines.rule(engine, 1, "p(X,Y)<q(X,Y)");
        engine.append('?');
        engine.save(0);
        long before = engine.checksum();
        int[] answers = {engine.begin(0), engine.setPlaces(Q, 1), engine.setPlaces(R, 3),
            engine.addFact(Q, 9, 0, 0, 1), engine.addFact(Q, 0, 0, 0, 17), engine.removeFact(1),
            engine.removeRule(1), engine.append(-1), engine.addRule(1), engine.addRule(0),
            engine.save(2), engine.restore(1), engine.restore(2)};
        for (int answer : answers) {
            due("an error", answer < 0 && answer != NONE ? 1 : 0, 1);
        }
        due("checksum() after errors", engine.checksum(), before);
        due("the places after errors", engine.setPlaces(R, 2), 2);
        due("the text after errors", engine.clearText(), 14);
    }

    /** Eight rules of six constants and three variables, of which all instances hold. */
    private static void mostInstances() {
        FactOrigins engine = new FactOrigins();
        engine.begin(6);
        for (int i = 0; i < 6; i++) {
            Engines.fact(engine, U, i, i, i, 16 - i);
        }
        Engines.rule(engine, 1, "q(X,Y)<u(X,X),u(Y,Y),u(Z,Z)");
        for (int r = 1; r < 7; r++) {
            Engines.rule(engine, 9 - r, "p(X,Y)<q(X,Y),q(Y,Z),q(Z,X)");
        }
        Engines.rule(engine, 1, "p(Y,X)<q(Z,X),!r(X,Y),q(Y,Z)");
        due("the size", engine.size(), 6 + 36 + 36);
        due("the instances of a head", engine.instances(P, 5, 5), 42);
        due("the instances of another", engine.instances(Q, 5, 5), 6);
        due("the cost by the last rule", engine.cost(P, 5, 4), 1 + (1 + 4) + (1 + 5));
        due("the last rule", engine.least(P, 5, 4, 0), 7);
        due("its base facts", engine.least(P, 5, 4, 2), 0b110001);
        due("a likelihood", engine.likelihood(P, 5, 4),
                Float.floatToIntBits(12 / 16f * 1f * 1f * (11 / 16f * 1f * 1f)));
        due("what it needs", engine.needs(P, 5, 4), 0b110000);
        due("where it is cut", engine.cut(P, 5, 4), 0b10000);
        due("the size without a constant", engine.sizeWithout(0b1000), 5 + 25 + 25);
    }

    /** Each answer about a fact at the ends of the ranges, and about its neighbours that are not there. */
    private static void firstAndLastAtom() {
        FactOrigins engine = new FactOrigins();
        engine.begin(6);
        Engines.rule(engine, 2, "p(0,0)<!r(0,0)");
        Engines.rule(engine, 3, "u(5,5)<p(0,0),q(0,0)");
        Engines.fact(engine, Q, 0, 0, 4, 5);
        due("the first: round", engine.round(P, 0, 0), 1);
        due("the first: instances", engine.instances(P, 0, 0), 1);
        due("the first: cost", engine.cost(P, 0, 0), 2);
        dueLikelihood(engine, P, 0, 0, 1f);
        due("the first: least", engine.least(P, 0, 0, 1), 1);
        due("the first: needs", engine.needs(P, 0, 0), 0);
        due("the first: cut", engine.cut(P, 0, 0), NONE);
        due("the first: holdsWithout", engine.holdsWithout(1, P, 0, 0), 1);
        due("the last: round", engine.round(U, 5, 5), 2);
        due("the last: instances", engine.instances(U, 5, 5), 1);
        due("the last: cost", engine.cost(U, 5, 5), 9);
        dueLikelihood(engine, U, 5, 5, 5 / 16f);
        due("the last: least", engine.least(U, 5, 5, 1), 3);
        due("the last: needs", engine.needs(U, 5, 5), 1);
        due("the last: cut", engine.cut(U, 5, 5), 1);
        due("the last: holdsWithout", engine.holdsWithout(1, U, 5, 5), 0);
        due("a neighbour of the first", engine.cost(P, 0, 1), NONE);
        due("a neighbour of the last", engine.cost(U, 5, 4), NONE);
        // p(0,1) stands beside p(0,0), which needs nothing, but needs its own base fact.
        Engines.fact(engine, P, 0, 1, 1, 1);
        due("a neighbour's needs", engine.needs(P, 0, 1), 0b10);
        due("a neighbour's cut", engine.cut(P, 0, 1), 0b10);
    }

    /** What has been asked for before a change does not show after it. */
    private static void changesAreSeen() {
        FactOrigins engine = new FactOrigins();
        long[] empty = everything(engine);
        Engines.fact(engine, Q, 0, 1, 3, 8);
        long[] withFact = everything(engine);
        Engines.rule(engine, 2, "p(0,0)<q(X,Y)");
        engine.save(0);
        long[] withRule = everything(engine);
        Engines.fact(engine, Q, 0, 1, 1, 16);
        long[] withTwoFacts = everything(engine);
        dueEach("a fact and a rule", withRule, 2, 0, 1, 0b1, 0b1, 5, 0b1, Float.floatToIntBits(0.5f));
        dueEach("two facts and a rule", withTwoFacts, 2, 2, 1, 0, 0b11, 3, 0b10, Float.floatToIntBits(1f));
        engine.removeFact(1);
        dueEach("after removeFact", everything(engine), withRule);
        engine.removeRule(0);
        dueEach("after removeRule", everything(engine), withFact);
        engine.restore(0);
        dueEach("after restore", everything(engine), withRule);
        engine.begin(4);
        dueEach("after begin", everything(engine), empty);
    }

    private static long[] everything(FactOrigins engine) {
        return new long[] {engine.size(), engine.sizeWithout(1), engine.rounds(), engine.needs(P, 0, 0),
            engine.cut(P, 0, 0), engine.cost(P, 0, 0), engine.least(P, 0, 0, 2), engine.likelihood(P, 0, 0),
            engine.instances(P, 0, 0), engine.stratum(P), engine.checksum()};
    }

    private static void dueEach(String what, long[] got, long... want) {
        for (int i = 0; i < want.length; i++) {
            due(what + ", answer " + i, got[i], want[i]);
        }
    }
}
