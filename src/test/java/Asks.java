import java.util.ArrayList;
import java.util.List;

/** The calls that name a fact and change nothing, and all that can be learned of an engine. */
final class Asks implements Names {
    interface FactCall {
        int ask(FactOrigins engine, int predicate, int first, int second);
    }

    record Ask(String name, FactCall call) {
        int of(FactOrigins engine, int predicate, int first, int second) {
            return call.ask(engine, predicate, first, second);
        }
    }

    static final List<Ask> OF_FACT = List.of(
            new Ask("round", FactOrigins::round),
            new Ask("instances", FactOrigins::instances),
            new Ask("cost", FactOrigins::cost),
            new Ask("likelihood", FactOrigins::likelihood),
            new Ask("least of 0", (engine, p, a, b) -> engine.least(p, a, b, 0)),
            new Ask("least of 1", (engine, p, a, b) -> engine.least(p, a, b, 1)),
            new Ask("least of 2", (engine, p, a, b) -> engine.least(p, a, b, 2)),
            new Ask("needs", FactOrigins::needs),
            new Ask("cut", FactOrigins::cut),
            new Ask("holdsWithout 0", (engine, p, a, b) -> engine.holdsWithout(0, p, a, b)));

    private Asks() {
    }

    /**
     * What some 120 calls tell of the state: the model, the text, the places, the slots and n. The calls change
     * the engine, so it is used up then.
     */
    static List<Long> traits(FactOrigins engine) {
        List<Long> traits = new ArrayList<>();
        addModel(traits, engine);
        traits.add((long) engine.faultPosition());
        traits.add((long) engine.append('?'));
        traits.add((long) engine.faultPosition());
        traits.add((long) engine.clearText());
        for (int predicate = 0; predicate < 6; predicate++) {
            traits.add((long) engine.setPlaces(predicate, 1));
        }
        for (int slot = 0; slot < 2; slot++) {
            traits.add((long) engine.restore(slot));
            addModel(traits, engine);
        }
        traits.add((long) engine.begin(1));
        return traits;
    }

    private static void addModel(List<Long> traits, FactOrigins engine) {
        traits.add((long) engine.facts());
        traits.add((long) engine.rules());
        traits.add((long) engine.sizeWithout(0b1));
        traits.add((long) engine.sizeWithout(0b110));
        for (int predicate = 0; predicate < 6; predicate++) {
            traits.add((long) engine.count(predicate));
            traits.add((long) engine.needs(predicate, 0, 1));
            traits.add((long) engine.cut(predicate, 0, 1));
            traits.add((long) engine.needs(predicate, 3, 0));
            traits.add((long) engine.cut(predicate, 3, 0));
        }
        traits.add(engine.checksum());
    }
}
