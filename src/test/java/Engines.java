/** Short ways to bring an engine into a state. They throw if the engine refuses a step. */
final class Engines {
    private Engines() {
    }

    static void write(FactOrigins engine, String text) {
        engine.clearText();
        for (int i = 0; i < text.length(); i++) {
            if (engine.append(text.charAt(i)) != i + 1) {
                throw new IllegalStateException("the text was refused: " + text);
            }
        }
    }

    static int fault(FactOrigins engine, String text) {
        write(engine, text);
        return engine.faultPosition();
    }

    static void rule(FactOrigins engine, int cost, String text) {
        write(engine, text);
        if (engine.addRule(cost) < 0) {
            throw new IllegalStateException("the rule was refused: " + text);
        }
    }

    static void fact(FactOrigins engine, int predicate, int first, int second, int cost, int sixteenths) {
        if (engine.addFact(predicate, first, second, cost, sixteenths) < 0) {
            throw new IllegalStateException("the fact was refused: " + predicate + " " + first + " " + second);
        }
    }

    static void facts(FactOrigins engine, int predicate, int[][] pairs, int cost, int sixteenths) {
        for (int[] pair : pairs) {
            fact(engine, predicate, pair[0], pair[1], cost, sixteenths);
        }
    }

    /** Rules whose negations go round in a circle. */
    static void makeUnstratified(FactOrigins engine) {
        rule(engine, 1, "p(X,Y)<q(X,Y),!r(X,Y)");
        rule(engine, 1, "r(X,Y)<q(X,Y),!p(X,Y)");
    }

    static FactOrigins withConstants(int constants) {
        FactOrigins engine = new FactOrigins();
        if (engine.begin(constants) < 0) {
            throw new IllegalStateException("the number was refused: " + constants);
        }
        return engine;
    }

    /** Fills the base facts up to twelve with facts of this predicate, which must be two-placed, of six constants. */
    static void fillFacts(FactOrigins engine, int predicate) {
        for (int i = engine.facts(); i < 12; i++) {
            fact(engine, predicate, i / 6, i % 6, i, i + 1);
        }
    }

    static void fillRules(FactOrigins engine, String text) {
        for (int r = engine.rules(); r < 8; r++) {
            rule(engine, r + 1, text);
        }
    }

    static FactOrigins doubling() {
        return doubling(1);
    }

    /**
     * A chain of facts t(0,0), t(0,1), .. t(5,5), each derived from two copies of the one before: the fact k
     * steps on costs 2^k * 61 - 1, and has the likelihood of the first one squared k times.
     */
    static FactOrigins doubling(int sixteenths) {
        FactOrigins engine = withConstants(6);
        fact(engine, 4, 0, 0, 60, sixteenths);
        facts(engine, 1, new int[][] {{0, 1}, {1, 2}, {2, 3}, {3, 4}, {4, 5}}, 0, 16);
        rule(engine, 1, "t(X,Z)<t(X,Y),t(X,Y),q(Y,Z)");
        rule(engine, 1, "t(Y,0)<t(X,5),t(X,5),q(X,Y)");
        return engine;
    }
}
