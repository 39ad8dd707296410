import java.util.ArrayList;
import java.util.List;
import java.util.function.Supplier;
import java.util.function.ToLongFunction;

/**
 * "Where several can apply, the order of the @return line is the order of the checks."; "A call that reports an
 * error changes nothing."; "NONE is not an error and is returned only if no error applies."
 *
 * <p>Each call is made on an engine of its own, and all that can be learned of this engine afterwards must be what
 * is learned of one on which the call was not made.
 */
public final class RefusalTest implements Names {
    private static final Check CHECK = new Check("RefusalTest");

    private record Call(String name, ToLongFunction<FactOrigins> made, long due) {
    }

    private RefusalTest() {
    }

    public static void main(String[] args) {
        List<Call> everywhere = wrongNumbers();
        changeNothing("ordinary", RefusalTest::ordinary, everywhere);
        changeNothing("ordinary", RefusalTest::ordinary, refusedOrdinarily());
        changeNothing("ordinary", RefusalTest::ordinary, answeredOrdinarily());
        changeNothing("full", RefusalTest::full, everywhere);
        changeNothing("full", RefusalTest::full, refusedWhereFull());
        changeNothing("full text", RefusalTest::fullText, everywhere);
        changeNothing("full text", RefusalTest::fullText, refusedByTheText());
        changeNothing("no model", RefusalTest::withoutModel, everywhere);
        changeNothing("no model", RefusalTest::withoutModel, refusedWithoutModel());
        changeNothing("new", FactOrigins::new, everywhere);
        changeNothing("new", FactOrigins::new, refusedOnceNew());
        changesWithoutModel();
        refusedInBetween();
        CHECK.end();
    }

    // ---- the engines

    /** A model of two strata, a text with a fault, slot 0 filled, slot 1 empty. */
    private static FactOrigins ordinary() {
        FactOrigins engine = new FactOrigins();
        engine.setPlaces(U, 1);
        Engines.facts(engine, Q, new int[][] {{0, 1}, {1, 2}, {0, 1}}, 5, 8);
        Engines.fact(engine, U, 3, 0, 3, 4);
        Engines.rule(engine, 1, "p(X,Y)<q(X,Y)");
        Engines.rule(engine, 2, "p(X,Z)<p(X,Y),q(Y,Z)");
        Engines.rule(engine, 3, "r(X,Y)<q(X,Y),!p(Y,X)");
        engine.save(0);
        Engines.fact(engine, Q, 2, 3, 7, 15);
        Engines.write(engine, "s(X,Y)<q(X");
        return engine;
    }

    /** 12 base facts, 8 rules, a text without a fault, both slots filled. */
    private static FactOrigins full() {
        FactOrigins engine = Engines.withConstants(6);
        engine.setPlaces(U, 1);
        engine.save(1);
        Engines.fillFacts(engine, Q);
        Engines.rule(engine, 1, "u(X)<q(X,Y)");
        Engines.fillRules(engine, "p(X,Z)<q(X,Y),q(Y,Z),!r(X,Z)");
        engine.save(0);
        return engine;
    }

    /** 12 base facts, 8 rules, 60 bytes of text. */
    private static FactOrigins fullText() {
        FactOrigins engine = full();
        engine.clearText();
        for (int i = 0; i < 60; i++) {
            engine.append("q(X,Y)<p(X,Y),r(Y,0),!s(0,X)".charAt(i % 28));
        }
        return engine;
    }

    /** Rules that are not stratified, a text without a fault, slot 1 filled with a model. */
    private static FactOrigins withoutModel() {
        FactOrigins engine = new FactOrigins();
        engine.setPlaces(U, 1);
        Engines.facts(engine, Q, new int[][] {{0, 1}, {3, 0}}, 5, 8);
        engine.save(1);
        Engines.makeUnstratified(engine);
        return engine;
    }

    // ---- the calls

    /** Refused in each state, with each pair of errors that can apply at once. */
    private static List<Call> wrongNumbers() {
        List<Call> calls = new ArrayList<>();
        for (int wrong : new int[] {LOWEST, -1, 7, HIGHEST}) {
            add(calls, "begin(" + wrong + ")", e -> e.begin(wrong), BAD_VALUE);
        }
        add(calls, "begin(0)", e -> e.begin(0), BAD_VALUE);
        for (int wrong : new int[] {LOWEST, -1, 6, HIGHEST}) {
            add(calls, "setPlaces(" + wrong + ", 1)", e -> e.setPlaces(wrong, 1), BAD_INDEX);
            add(calls, "setPlaces(" + wrong + ", 3)", e -> e.setPlaces(wrong, 3), BAD_INDEX);
            add(calls, "addFact(" + wrong + ", 0, 0, 0, 1)", e -> e.addFact(wrong, 0, 0, 0, 1), BAD_INDEX);
            add(calls, "addFact(" + wrong + ", 0, 0, -1, 0)", e -> e.addFact(wrong, 0, 0, -1, 0), BAD_INDEX);
            add(calls, "stratum(" + wrong + ")", e -> e.stratum(wrong), BAD_INDEX);
            add(calls, "count(" + wrong + ")", e -> e.count(wrong), BAD_INDEX);
            addAsks(calls, wrong, 0, 0, BAD_INDEX);
            addAsks(calls, P, wrong, 0, BAD_INDEX);
            addAsks(calls, P, 0, wrong, BAD_INDEX);
        }
        for (int wrong : new int[] {LOWEST, -1, 0, 3, HIGHEST}) {
            add(calls, "setPlaces(0, " + wrong + ")", e -> e.setPlaces(P, wrong), BAD_VALUE);
            add(calls, "setPlaces(1, " + wrong + ")", e -> e.setPlaces(Q, wrong), BAD_VALUE);
        }
        add(calls, "addFact of a wrong cost", e -> e.addFact(P, 0, 0, 100, 1), BAD_VALUE);
        add(calls, "addFact of a cost below", e -> e.addFact(P, 0, 0, -1, 16), BAD_VALUE);
        add(calls, "addFact of wrong sixteenths", e -> e.addFact(P, 0, 0, 0, 17), BAD_VALUE);
        add(calls, "addFact of sixteenths below", e -> e.addFact(P, 0, 0, 99, 0), BAD_VALUE);
        add(calls, "removeFact(-1)", e -> e.removeFact(-1), BAD_INDEX);
        add(calls, "removeFact(facts())", e -> e.removeFact(e.facts()), BAD_INDEX);
        add(calls, "removeFact(highest)", e -> e.removeFact(HIGHEST), BAD_INDEX);
        add(calls, "removeFact(lowest)", e -> e.removeFact(LOWEST), BAD_INDEX);
        add(calls, "removeRule(-1)", e -> e.removeRule(-1), BAD_INDEX);
        add(calls, "removeRule(rules())", e -> e.removeRule(e.rules()), BAD_INDEX);
        add(calls, "removeRule(highest)", e -> e.removeRule(HIGHEST), BAD_INDEX);
        add(calls, "removeRule(lowest)", e -> e.removeRule(LOWEST), BAD_INDEX);
        for (int wrong : new int[] {LOWEST, -1, 128, HIGHEST}) {
            add(calls, "append(" + wrong + ")", e -> e.append(wrong), BAD_VALUE);
        }
        for (int wrong : new int[] {LOWEST, -1, 0, 10, HIGHEST}) {
            add(calls, "addRule(" + wrong + ")", e -> e.addRule(wrong), BAD_VALUE);
        }
        for (int wrong : new int[] {LOWEST, -1, 3, HIGHEST}) {
            add(calls, "least of " + wrong, e -> e.least(P, 0, 0, wrong), BAD_VALUE);
            add(calls, "least of " + wrong + " and a wrong index", e -> e.least(P, 0, -1, wrong), BAD_INDEX);
        }
        for (int wrong : new int[] {LOWEST, -1}) {
            add(calls, "sizeWithout(" + wrong + ")", e -> e.sizeWithout(wrong), BAD_VALUE);
            add(calls, "holdsWithout(" + wrong + ")", e -> e.holdsWithout(wrong, P, 0, 0), BAD_VALUE);
            add(calls, "holdsWithout(" + wrong + ") and a wrong index", e -> e.holdsWithout(wrong, P, 9, 0), BAD_INDEX);
        }
        for (int wrong : new int[] {LOWEST, -1, 2, HIGHEST}) {
            add(calls, "save(" + wrong + ")", e -> e.save(wrong), BAD_INDEX);
            add(calls, "restore(" + wrong + ")", e -> e.restore(wrong), BAD_INDEX);
        }
        return calls;
    }

    private static List<Call> refusedOrdinarily() {
        List<Call> calls = new ArrayList<>();
        for (int predicate : new int[] {P, Q, R, U}) {
            for (int places = 1; places <= 2; places++) {
                int count = places;
                add(calls, "setPlaces(" + predicate + ", " + count + ")", e -> e.setPlaces(predicate, count),
                        NOT_POSSIBLE);
            }
        }
        add(calls, "addFact of a second constant too much", e -> e.addFact(U, 0, 1, 0, 1), BAD_INDEX);
        add(calls, "addFact of a constant that there is not", e -> e.addFact(Q, 4, 0, 0, 1), BAD_INDEX);
        addAsks(calls, U, 3, 1, BAD_INDEX);
        addAsks(calls, Q, 4, 0, BAD_INDEX);
        addAsks(calls, Q, 0, 4, BAD_INDEX);
        add(calls, "addRule(1)", e -> e.addRule(1), NOT_POSSIBLE);
        add(calls, "addRule(9)", e -> e.addRule(9), NOT_POSSIBLE);
        add(calls, "restore(1)", e -> e.restore(1), NOT_POSSIBLE);
        return calls;
    }

    /** Calls that only ask change nothing either, whether they answer NONE or not. */
    private static List<Call> answeredOrdinarily() {
        List<Call> calls = new ArrayList<>();
        for (Asks.Ask ask : Asks.OF_FACT) {
            boolean isCount = ask.name().equals("instances") || ask.name().startsWith("holdsWithout");
            add(calls, ask.name() + " of no fact", e -> ask.of(e, P, 3, 3), isCount ? 0 : NONE);
        }
        int[] answers = {3, 1, 1 + 5 + 2 + 5 + 2 + 7, Float.floatToIntBits(0.5f * 0.5f * (15 / 16f)), 1, 6, 0b10011,
            0b10010, 0b10, 1};
        for (int i = 0; i < answers.length; i++) {
            Asks.Ask ask = Asks.OF_FACT.get(i);
            add(calls, ask.name() + " of p(0,3)", e -> ask.of(e, P, 0, 3), answers[i]);
        }
        add(calls, "facts()", FactOrigins::facts, 5);
        add(calls, "rules()", FactOrigins::rules, 3);
        add(calls, "faultPosition()", FactOrigins::faultPosition, 10);
        add(calls, "stratum(2)", e -> e.stratum(R), 1);
        add(calls, "size()", FactOrigins::size, 4 + 6 + 3);
        add(calls, "count(0)", e -> e.count(P), 6);
        add(calls, "rounds()", FactOrigins::rounds, 4);
        add(calls, "sizeWithout(0)", e -> e.sizeWithout(0), 13);
        add(calls, "sizeWithout(2)", e -> e.sizeWithout(0b10), 3 + 2 + 2);
        add(calls, "holdsWithout(2)", e -> e.holdsWithout(0b10, P, 0, 3), 0);
        add(calls, "checksum() twice", e -> e.checksum() - e.checksum(), 0);
        return calls;
    }

    private static List<Call> refusedWhereFull() {
        List<Call> calls = new ArrayList<>();
        add(calls, "addFact of a new fact", e -> e.addFact(P, 0, 0, 0, 1), FULL);
        add(calls, "addFact of the same fact", e -> e.addFact(Q, 0, 0, 0, 1), FULL);
        add(calls, "addFact of a wrong value", e -> e.addFact(Q, 0, 0, 0, 0), BAD_VALUE);
        add(calls, "addFact of a wrong index", e -> e.addFact(U, 0, 1, 0, 1), BAD_INDEX);
        add(calls, "addRule(1)", e -> e.addRule(1), FULL);
        add(calls, "addRule(9)", e -> e.addRule(9), FULL);
        add(calls, "removeFact(12)", e -> e.removeFact(12), BAD_INDEX);
        add(calls, "removeRule(8)", e -> e.removeRule(8), BAD_INDEX);
        add(calls, "setPlaces of a head", e -> e.setPlaces(U, 2), NOT_POSSIBLE);
        add(calls, "setPlaces of a negated atom", e -> e.setPlaces(R, 1), NOT_POSSIBLE);
        return calls;
    }

    private static List<Call> refusedByTheText() {
        List<Call> calls = new ArrayList<>();
        add(calls, "append(0)", e -> e.append(0), FULL);
        add(calls, "append(127)", e -> e.append(127), FULL);
        add(calls, "append('p')", e -> e.append('p'), FULL);
        add(calls, "addRule(1), the fault before FULL", e -> e.addRule(1), NOT_POSSIBLE);
        add(calls, "faultPosition()", FactOrigins::faultPosition, 28);
        return calls;
    }

    private static List<Call> refusedWithoutModel() {
        List<Call> calls = new ArrayList<>();
        for (int predicate = 0; predicate <= 5; predicate++) {
            int asked = predicate;
            add(calls, "stratum(" + asked + ")", e -> e.stratum(asked), NO_MODEL);
            add(calls, "count(" + asked + ")", e -> e.count(asked), NO_MODEL);
            addAsks(calls, asked, 0, 0, NO_MODEL);
            addAsks(calls, asked, 3, 0, NO_MODEL);
        }
        add(calls, "size()", FactOrigins::size, NO_MODEL);
        add(calls, "rounds()", FactOrigins::rounds, NO_MODEL);
        add(calls, "sizeWithout(0)", e -> e.sizeWithout(0), NO_MODEL);
        add(calls, "sizeWithout(highest)", e -> e.sizeWithout(HIGHEST), NO_MODEL);
        add(calls, "holdsWithout(1)", e -> e.holdsWithout(1, Q, 0, 1), NO_MODEL);
        add(calls, "facts()", FactOrigins::facts, 2);
        add(calls, "rules()", FactOrigins::rules, 2);
        add(calls, "faultPosition()", FactOrigins::faultPosition, NONE);
        addAsks(calls, U, 0, 1, BAD_INDEX);
        return calls;
    }

    private static List<Call> refusedOnceNew() {
        List<Call> calls = new ArrayList<>();
        add(calls, "removeFact(0)", e -> e.removeFact(0), BAD_INDEX);
        add(calls, "removeRule(0)", e -> e.removeRule(0), BAD_INDEX);
        add(calls, "addRule(1)", e -> e.addRule(1), NOT_POSSIBLE);
        add(calls, "clearText()", FactOrigins::clearText, 0);
        add(calls, "restore(0)", e -> e.restore(0), NOT_POSSIBLE);
        add(calls, "restore(1)", e -> e.restore(1), NOT_POSSIBLE);
        add(calls, "begin(4)", e -> e.begin(4), 4);
        return calls;
    }

    private static void add(List<Call> calls, String name, ToLongFunction<FactOrigins> made, long due) {
        calls.add(new Call(name, made, due));
    }

    private static void addAsks(List<Call> calls, int predicate, int first, int second, int due) {
        for (Asks.Ask ask : Asks.OF_FACT) {
            add(calls, ask.name() + " of " + predicate + " " + first + " " + second,
                    e -> ask.of(e, predicate, first, second), due);
        }
    }

    // ---- the tests

    private static void changeNothing(String state, Supplier<FactOrigins> maker, List<Call> calls) {
        List<Long> asked = Asks.traits(maker.get());
        for (Call call : calls) {
            String name = state + ": " + call.name;
            FactOrigins engine = maker.get();
            CHECK.due(name, call.made.applyAsLong(engine), call.due);
            dueTraits(name, engine, asked);
            // Once more on an engine that has computed all that it keeps.
            FactOrigins warm = maker.get();
            long before = warm.checksum();
            warm.sizeWithout(0b10);
            warm.needs(Q, 0, 1);
            CHECK.due(name + " again", call.made.applyAsLong(warm), call.due);
            CHECK.due(name + ", the checksum after it", warm.checksum(), before);
            dueTraits(name + " again", warm, asked);
        }
    }

    private static void dueTraits(String name, FactOrigins engine, List<Long> want) {
        List<Long> got = Asks.traits(engine);
        for (int i = 0; i < want.size(); i++) {
            CHECK.due(name + ", then trait " + i, got.get(i), want.get(i));
        }
    }

    /** NO_MODEL is an error "of all calls that ask for the model": the others go on. */
    private static void changesWithoutModel() {
        FactOrigins engine = withoutModel();
        CHECK.due("addFact without a model", engine.addFact(U, 3, 0, 1, 1), 2);
        CHECK.due("removeFact without a model", engine.removeFact(0), 2);
        CHECK.due("setPlaces without a model", engine.setPlaces(T, 1), 2);
        CHECK.due("setPlaces of a used predicate", engine.setPlaces(P, 1), NOT_POSSIBLE);
        CHECK.due("append without a model", engine.append(','), 22);
        CHECK.due("faultPosition without a model", engine.faultPosition(), 22);
        CHECK.due("clearText without a model", engine.clearText(), 22);
        Engines.write(engine, "t(X)<u(X)");
        CHECK.due("addRule without a model", engine.addRule(4), 2);
        CHECK.due("save without a model", engine.save(0), 3);
        CHECK.due("removeRule without a model", engine.removeRule(0), 2);
        CHECK.due("the model is there again", engine.size(), 4);
        CHECK.due("restore without a model", engine.restore(0), 3);
        CHECK.due("no model again", engine.size(), NO_MODEL);
        CHECK.due("restore with a model", engine.restore(1), 0);
        CHECK.due("the model of the slot", engine.size(), 2);
        engine.restore(0);
        CHECK.due("begin without a model", engine.begin(2), 4);
        CHECK.due("an empty model", engine.size(), 0);
    }

    /** Refused calls between changes: the number of the next base fact or rule is as if they had not been made. */
    private static void refusedInBetween() {
        FactOrigins engine = new FactOrigins();
        Engines.write(engine, "p(X,Y)<q(X,Y)");
        for (int i = 0; i < 8; i++) {
            CHECK.due("a refused base fact", engine.addFact(Q, 0, 4, 0, 1), BAD_INDEX);
            CHECK.due("another", engine.addFact(Q, 0, 0, 0, 17), BAD_VALUE);
            CHECK.due("the base fact " + i, engine.addFact(Q, i / 4, i % 4, i, 1), i);
            CHECK.due("a refused rule", engine.addRule(10), BAD_VALUE);
            CHECK.due("the rule " + i, engine.addRule(9 - i), i);
            CHECK.due("a refused byte", engine.append(128), BAD_VALUE);
            CHECK.due("a refused removal", engine.removeFact(i + 1), BAD_INDEX);
            CHECK.due("another", engine.removeRule(i + 1), BAD_INDEX);
            CHECK.due("the cost by the last rule", engine.cost(P, 0, 0), 9 - i);
        }
        CHECK.due("clearText()", engine.clearText(), 13);
    }
}
