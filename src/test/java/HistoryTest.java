import java.util.List;

/**
 * The sentences that need several calls to show: what a removal, a begin, a save or a restore leaves as it was, and
 * that nothing that is kept between calls outlives a change.
 *
 * <p>A history is played up to each of its steps (a made-up one to its end); then its engine must tell what a new
 * one tells that is brought straight to the state that the document says. Between the steps the engine is asked, so
 * that it has computed what it may keep.
 */
public final class HistoryTest implements Names {
    private static final Check CHECK = new Check("HistoryTest");

    private interface Step {
        void on(History history);
    }

    private HistoryTest() {
    }

    public static void main(String[] args) {
        begunAnew();
        removed();
        placesOfUnusedPredicates();
        textStays();
        rulesOutliveTexts();
        savedInPlace();
        slotsAreKept();
        strataComeAndGo();
        factsComeAndGo();
        faultsComeAndGo();
        int made = args.length > 0 ? Integer.parseInt(args[0]) : 400;
        for (int i = 0; i < made && CHECK.allDue(); i++) {
            new MadeHistory(CHECK, i).play();
        }
        CHECK.end();
    }

    /** Plays each beginning of the history on an engine of its own, once with and once without asking in between. */
    private static void played(String name, Step... steps) {
        for (int length = 0; length <= steps.length; length++) {
            for (boolean asks : new boolean[] {false, true}) {
                History history = new History(CHECK, name);
                for (Step step : List.of(steps).subList(0, length)) {
                    step.on(history);
                    if (asks) {
                        history.ask();
                    }
                }
                history.compare();
            }
        }
    }

    /** "Begins anew: there are no base facts and no rules, and all predicates have two places." */
    private static void begunAnew() {
        played("the text and the slots stay",
                h -> h.places(U, 1), h -> h.fact(U, 3, 0, 2, 9), h -> h.fact(Q, 0, 1, 3, 8),
                h -> h.rule(2, "p(X,Y)<q(X,Y),!u(X)"), h -> h.save(1), h -> h.write("u(3)<q(X"),
                h -> h.begin(4), h -> h.fact(U, 3, 3, 2, 9), h -> h.begin(1), h -> h.fact(U, 0, 0, 2, 9),
                h -> h.rule(1, "u(0,0)<q(X,Y)"), h -> h.restore(1), h -> h.begin(6), h -> h.fact(P, 5, 5, 1, 1));
        played("begin forgets what was there, even with the same n",
                h -> h.fact(Q, 0, 1, 3, 8), h -> h.rule(1, "p(X,Y)<q(X,Y)"), h -> h.begin(4),
                h -> h.fact(Q, 0, 1, 4, 7), h -> h.rule(2, "p(Y,X)<q(X,Y)"));
    }

    /** "If one is removed, the numbers of later ones become 1 less; likewise for base facts." */
    private static void removed() {
        played("base facts",
                h -> h.rule(1, "p(X,Y)<q(X,Y)"), h -> h.fact(Q, 0, 1, 3, 8), h -> h.fact(Q, 1, 2, 4, 7),
                h -> h.fact(Q, 0, 1, 2, 9), h -> h.fact(P, 0, 1, 5, 6), h -> h.dropFact(1), h -> h.dropFact(0),
                h -> h.fact(Q, 2, 2, 0, 1), h -> h.dropFact(2), h -> h.dropFact(0), h -> h.dropFact(0),
                h -> h.dropFact(0), h -> h.fact(Q, 0, 0, 9, 9));
        played("rules",
                h -> h.fact(Q, 0, 1, 3, 8), h -> h.rule(5, "p(X,Y)<q(X,Y)"), h -> h.rule(2, "p(Y,X)<q(X,Y)"),
                h -> h.rule(7, "p(X,X)<q(X,Y)"), h -> h.rule(2, "r(X,Y)<p(Y,X),!q(X,Y)"), h -> h.dropRule(1),
                h -> h.dropRule(0), h -> h.rule(1, "p(Y,X)<q(X,Y)"), h -> h.dropRule(2), h -> h.dropRule(1),
                h -> h.dropRule(0), h -> h.dropRule(0), h -> h.rule(3, "s(Y,Y)<q(X,Y)"));
        played("all of one, none of the other",
                h -> h.fact(P, 1, 1, 1, 1), h -> h.rule(1, "p(0,0)<p(1,1)"), h -> h.dropFact(0),
                h -> h.dropFact(0), h -> h.dropRule(0), h -> h.dropRule(0));
    }

    /** "NOT_POSSIBLE if there is a base fact of this predicate, or it occurs in a rule": there is, not there was. */
    private static void placesOfUnusedPredicates() {
        played("after the last base fact is removed",
                h -> h.places(Q, 1), h -> h.fact(Q, 2, 0, 1, 1), h -> h.fact(Q, 2, 0, 1, 1), h -> h.places(Q, 2),
                h -> h.dropFact(0), h -> h.places(Q, 2), h -> h.dropFact(0), h -> h.places(Q, 2),
                h -> h.fact(Q, 2, 3, 1, 1), h -> h.places(Q, 1));
        played("after the last rule is removed",
                h -> h.rule(1, "p(X,Y)<q(X,Y),!r(X,Y)"), h -> h.places(P, 1), h -> h.places(Q, 1),
                h -> h.places(R, 1), h -> h.places(S, 1), h -> h.rule(1, "r(X,X)<s(X)"), h -> h.dropRule(0),
                h -> h.places(P, 1), h -> h.places(Q, 1), h -> h.places(R, 1), h -> h.places(S, 2),
                h -> h.dropRule(0), h -> h.places(R, 1), h -> h.places(S, 2));
        played("what a slot or the text mentions is not in use",
                h -> h.places(U, 1), h -> h.fact(U, 1, 0, 1, 1), h -> h.save(0), h -> h.begin(4),
                h -> h.write("p(X,X)<u(X)"), h -> h.places(P, 1), h -> h.places(U, 1), h -> h.restore(0),
                h -> h.places(P, 1), h -> h.places(U, 2));
        played("the same number",
                h -> h.places(T, 2), h -> h.places(T, 1), h -> h.places(T, 1), h -> h.fact(T, 0, 0, 1, 1),
                h -> h.places(T, 1), h -> h.dropFact(0), h -> h.places(T, 1));
    }

    /** "Adds the rule of the text. The text stays."; "Empties the text. Returns the length that it had." */
    private static void textStays() {
        played("the same text gives a rule again and again",
                h -> h.fact(Q, 0, 1, 1, 15), h -> h.rule(2, "p(X,Y)<q(X,Y)"), h -> h.ruleAgain(1), h -> h.ruleAgain(3),
                h -> h.dropRule(1), h -> h.ruleAgain(1), h -> h.begin(2), h -> h.ruleAgain(4),
                h -> h.fact(Q, 0, 1, 1, 15), h -> h.save(0), h -> h.ruleAgain(1), h -> h.restore(0),
                h -> h.ruleAgain(1));
        played("it stays when base facts, places and rules change",
                h -> h.write("s(X,"), h -> h.fact(Q, 0, 0, 1, 1), h -> h.places(R, 1), h -> h.save(0),
                h -> h.dropFact(0), h -> h.restore(0), h -> h.begin(3), h -> h.write(""), h -> h.restore(0));
    }

    /** A rule is what the text was when it was added, whatever becomes of the text. */
    private static void rulesOutliveTexts() {
        played("rules outlive their texts",
                h -> h.fact(Q, 0, 1, 1, 15), h -> h.fact(Q, 1, 3, 1, 15), h -> h.rule(2, "p(X,Z)<q(X,Y),q(Y,Z)"),
                h -> h.write("r(Z,"), h -> h.write("p(2,Z)<q(Z,Z),!s(Z,2)"), h -> h.write(""),
                h -> h.rule(1, "r(Y,X)<!p(X,Y),q(X,Y)"), h -> h.write("r(3,3)<s(2,2"), h -> h.dropRule(0));
    }

    /** "Saves n, the places of predicates, the base facts and the rules, in place of what the slot keeps." */
    private static void savedInPlace() {
        played("more, then less",
                h -> h.fact(Q, 0, 1, 1, 15), h -> h.fact(Q, 1, 3, 1, 15), h -> h.rule(2, "p(X,Z)<q(X,Y),q(Y,Z)"),
                h -> h.rule(3, "p(X,Y)<q(Y,X)"), h -> h.save(0), h -> h.begin(2), h -> h.places(T, 1),
                h -> h.fact(T, 1, 0, 3, 3), h -> h.save(0), h -> h.begin(5), h -> h.restore(0));
        played("what comes after is not saved",
                h -> h.fact(Q, 0, 1, 1, 15), h -> h.rule(2, "p(X,Y)<q(X,Y)"), h -> h.save(0), h -> h.save(1),
                h -> h.dropRule(0), h -> h.rule(5, "p(Y,X)<q(X,Y)"), h -> h.dropFact(0), h -> h.fact(Q, 2, 3, 4, 4),
                h -> h.places(U, 1), h -> h.restore(1), h -> h.save(0), h -> h.restore(0));
        played("an engine without base facts and rules can be saved too",
                h -> h.save(1), h -> h.fact(Q, 0, 1, 1, 15), h -> h.rule(2, "p(X,Y)<q(X,Y)"), h -> h.restore(1),
                h -> h.restore(0));
    }

    /** "Makes n, the places of predicates, the base facts and the rules as they were saved. The slot keeps them." */
    private static void slotsAreKept() {
        played("what is done after a restore does not reach the slot",
                h -> h.places(S, 1), h -> h.fact(S, 3, 0, 1, 15), h -> h.rule(2, "p(X,Y)<s(X),s(Y)"), h -> h.save(1),
                h -> h.restore(1), h -> h.dropFact(0), h -> h.rule(9, "p(X,X)<s(X)"), h -> h.dropRule(0),
                h -> h.restore(1), h -> h.begin(2), h -> h.fact(S, 1, 1, 1, 1), h -> h.restore(1),
                h -> h.fact(S, 3, 0, 0, 16), h -> h.save(0), h -> h.restore(1), h -> h.restore(0));
        played("two slots and a third state",
                h -> h.begin(2), h -> h.fact(Q, 0, 1, 1, 2), h -> h.save(0), h -> h.begin(6),
                h -> h.fact(Q, 5, 5, 3, 4), h -> h.save(1), h -> h.begin(3), h -> h.fact(R, 2, 2, 5, 6),
                h -> h.restore(0), h -> h.restore(1), h -> h.restore(0));
    }

    /** "NO_MODEL stands for an error of all calls that ask for the model, if the rules are not stratified." */
    private static void strataComeAndGo() {
        played("the rules are stratified, and not, and are again",
                h -> h.fact(Q, 0, 1, 1, 15), h -> h.rule(2, "p(X,Y)<q(X,Y),!r(X,Y)"),
                h -> h.rule(3, "s(X,Y)<p(X,Y),!q(X,Y)"), h -> h.rule(1, "r(X,Y)<p(X,Y)"), h -> h.fact(R, 0, 1, 2, 2),
                h -> h.save(0), h -> h.dropRule(0), h -> h.dropFact(1), h -> h.restore(0), h -> h.begin(4),
                h -> h.rule(1, "p(0,0)<!p(1,1)"), h -> h.fact(P, 0, 0, 0, 1), h -> h.dropRule(0));
    }

    /** Negated atoms: a base fact that comes takes facts away, and gives them back when it goes. */
    private static void factsComeAndGo() {
        played("negated base facts",
                h -> h.rule(1, "p(X,Y)<q(X,Y),!r(X,Y)"), h -> h.fact(Q, 0, 1, 1, 15), h -> h.fact(R, 0, 1, 1, 15),
                h -> h.fact(R, 0, 1, 5, 5), h -> h.dropFact(1), h -> h.dropFact(1), h -> h.dropFact(0));
        played("the same base fact with other costs and likelihoods",
                h -> h.rule(1, "p(X,Y)<q(X,Y)"), h -> h.fact(Q, 0, 1, 5, 5), h -> h.fact(Q, 0, 1, 3, 3),
                h -> h.fact(Q, 0, 1, 3, 9), h -> h.fact(P, 0, 1, 4, 1), h -> h.fact(P, 0, 1, 3, 1),
                h -> h.dropFact(1), h -> h.dropFact(1), h -> h.dropFact(2), h -> h.dropFact(1), h -> h.dropFact(0));
    }

    /** The fault position is that of the text as it is read now, with the n and the places that there are now. */
    private static void faultsComeAndGo() {
        History history = new History(CHECK, "faults");
        history.write("u(3)<q(3,5)");
        history.fault(3);
        history.places(U, 1);
        history.fault(9);
        history.begin(6);
        history.fault(3);
        history.places(U, 1);
        history.fault(NONE);
        history.save(0);
        history.begin(3);
        history.fault(2);
        history.restore(0);
        history.fault(NONE);
        history.ruleAgain(1);
        history.compare();
    }
}
