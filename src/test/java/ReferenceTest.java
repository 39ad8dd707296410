/** Runs of made-up calls, each on a FactOrigins and on a Reference; both must answer the same. */
public final class ReferenceTest {
    private static final int RUNS = 200;
    private static final int MOST_CALLS = 512;

    private final Check check;
    private final int run;
    private final FactOrigins engine = new FactOrigins();
    private final Reference reference = new Reference();
    private long seed;
    private int calls = 0;
    private int constants = 4;
    private final int[] places = {2, 2, 2, 2, 2, 2};

    private ReferenceTest(Check check, int run) {
        this.check = check;
        this.run = run;
        this.seed = 7919L * (run + 1);
    }

    public static void main(String[] args) {
        int runs = args.length > 0 ? Integer.parseInt(args[0]) : RUNS;
        Check check = new Check("ReferenceTest");
        for (int run = 0; run < runs && check.allDue(); run++) {
            new ReferenceTest(check, run).play();
        }
        check.end();
    }

    /** A linear congruence, so that every machine plays the same runs. */
    private int below(int bound) {
        seed = seed * 6364136223846793005L + 1442695040888963407L;
        return (int) ((seed >>> 33) % bound);
    }

    private int oneOf(int... values) {
        return values[below(values.length)];
    }

    private void due(String call, long got, long want) {
        calls++;
        check.due("run " + run + ", call " + calls + ", " + call, got, want);
    }

    private void play() {
        begin(oneOf(1, 2, 2, 3, 3, 4, 4, 4, 5, 6));
        for (int p = 0; p < 6; p++) {
            if (below(3) == 0) {
                setPlaces(p, 1);
            }
        }
        for (int i = 1 + below(12); i > 0; i--) {
            addFact();
        }
        for (int i = 1 + below(9); i > 0; i--) {
            addRule();
        }
        while (calls < MOST_CALLS - 80 && check.allDue()) {
            step();
        }
        due("checksum()", engine.checksum(), reference.checksum());
    }

    private void step() {
        int kind = below(100);
        if (kind < 10) {
            change();
        } else if (kind < 16) {
            addFact();
        } else if (kind < 20) {
            addRule();
        } else if (kind < 22) {
            messText();
        } else if (kind < 36) {
            askModel();
        } else if (kind < 96) {
            askFact();
        } else {
            due("checksum()", engine.checksum(), reference.checksum());
        }
    }

    private void begin(int n) {
        due("begin(" + n + ")", engine.begin(n), reference.begin(n));
        if (n >= 1 && n <= 6) {
            constants = n;
            java.util.Arrays.fill(places, 2);
        }
    }

    private void setPlaces(int predicate, int count) {
        int answer = reference.setPlaces(predicate, count);
        due("setPlaces(" + predicate + ", " + count + ")", engine.setPlaces(predicate, count), answer);
        if (answer >= 0) {
            places[predicate] = count;
        }
    }

    private void change() {
        int kind = below(20);
        int index = oneOf(-1, 0, 0, 1, 1, 2, 3, 5, 7, 8, 11, 12, Integer.MAX_VALUE, Integer.MIN_VALUE);
        if (kind < 5) {
            due("removeFact(" + index + ")", engine.removeFact(index), reference.removeFact(index));
        } else if (kind < 7) {
            due("removeRule(" + index + ")", engine.removeRule(index), reference.removeRule(index));
        } else if (kind < 14) {
            setPlaces(oneOf(-1, 0, 1, 2, 3, 4, 5, 6), oneOf(0, 1, 1, 2, 2, 3));
        } else if (kind < 16) {
            int slot = oneOf(-1, 0, 0, 1, 1, 2);
            due("save(" + slot + ")", engine.save(slot), reference.save(slot));
        } else if (kind < 18) {
            int slot = oneOf(-1, 0, 0, 1, 1, 2);
            due("restore(" + slot + ")", engine.restore(slot), reference.restore(slot));
        } else if (kind < 19 && below(4) == 0) {
            begin(oneOf(-1, 0, 1, 2, 3, 4, 5, 6, 7));
        } else {
            due("facts()", engine.facts(), reference.facts());
            due("rules()", engine.rules(), reference.rules());
        }
    }

    private int constant() {
        return below(30) == 0 ? oneOf(-1, 6, constants, Integer.MIN_VALUE, Integer.MAX_VALUE) : below(constants);
    }

    private int second(int predicate) {
        boolean single = predicate >= 0 && predicate < 6 && places[predicate] == 1;
        return single && below(20) != 0 ? 0 : constant();
    }

    private int predicate() {
        return below(40) == 0 ? oneOf(-1, 6, Integer.MAX_VALUE, Integer.MIN_VALUE) : below(6);
    }

    private void addFact() {
        int p = predicate();
        int a = constant();
        int b = second(p);
        int cost = below(20) == 0 ? oneOf(-1, 100, Integer.MAX_VALUE) : oneOf(0, 1, 2, 3, 5, 20, 99, below(100));
        int s = below(20) == 0 ? oneOf(0, 17, -5) : oneOf(1, 16, 8, 15, 1 + below(16));
        due("addFact(" + p + ", " + a + ", " + b + ", " + cost + ", " + s + ")",
                engine.addFact(p, a, b, cost, s), reference.addFact(p, a, b, cost, s));
    }

    private void addRule() {
        write(ruleText());
        due("faultPosition()", engine.faultPosition(), reference.faultPosition());
        int cost = below(20) == 0 ? oneOf(0, 10, -3) : 1 + below(9);
        due("addRule(" + cost + ")", engine.addRule(cost), reference.addRule(cost));
    }

    private void write(String text) {
        due("clearText()", engine.clearText(), reference.clearText());
        for (int i = 0; i < text.length(); i++) {
            int letter = text.charAt(i);
            check.due("run " + run + ", append(" + letter + ")", engine.append(letter), reference.append(letter));
            calls++;
        }
    }

    private String ruleText() {
        int literals = 1 + below(3);
        int head = Math.max(below(6), below(6));
        String bound = "";
        String[] atoms = new String[literals];
        boolean[] negated = new boolean[literals];
        for (int k = 0; k < literals; k++) {
            negated[k] = below(4) == 0;
            if (!negated[k]) {
                int part = below(25) == 0 ? below(6) : below(head + 1);
                atoms[k] = atomText(below(4) == 0 ? head : part, "XYZ");
                bound = bound + atoms[k].replaceAll("[^XYZ]", "");
            }
        }
        StringBuilder made = new StringBuilder(atomText(head, below(20) == 0 ? "XYZ" : bound)).append('<');
        for (int k = 0; k < literals; k++) {
            if (negated[k]) {
                atoms[k] = "!" + atomText(head > 0 ? below(head) : below(6), below(20) == 0 ? "XYZ" : bound);
            }
            made.append(k == 0 ? "" : ",").append(atoms[k]);
        }
        if (below(25) == 0) {
            made.setCharAt(below(made.length()), "pX0,)(!<6".charAt(below(9)));
        }
        return made.toString();
    }

    private String atomText(int predicate, String variables) {
        String terms = term(variables) + (places[predicate] == 1 ? "" : "," + term(variables));
        return (char) ('p' + predicate) + "(" + terms + ")";
    }

    private String term(String variables) {
        boolean constant = variables.isEmpty() || below(8) == 0;
        return constant ? "" + below(constants) : "" + variables.charAt(below(variables.length()));
    }

    /** Texts with a fault somewhere. */
    private void messText() {
        StringBuilder made = new StringBuilder(ruleText());
        for (int i = below(3); i > 0 && made.length() > 1; i--) {
            int at = below(made.length());
            switch (below(4)) {
                case 0 -> made.deleteCharAt(at);
                case 1 -> made.insert(at, "pqrstuXYZ0123456,()!<".charAt(below(21)));
                case 2 -> made.setLength(at);
                default -> made.append(",!q(0,0)");
            }
        }
        made.setLength(Math.min(made.length(), 40));
        write(made.toString());
        due("faultPosition() of " + made, engine.faultPosition(), reference.faultPosition());
        int letter = oneOf(-1, 128, 0, 127, 'p');
        due("append(" + letter + ")", engine.append(letter), reference.append(letter));
    }

    private void askModel() {
        int p = predicate();
        int without = below(12) == 0 ? oneOf(-1, Integer.MIN_VALUE, Integer.MAX_VALUE) : below(1 << 13);
        switch (below(5)) {
            case 0 -> due("size()", engine.size(), reference.size());
            case 1 -> due("rounds()", engine.rounds(), reference.rounds());
            case 2 -> due("count(" + p + ")", engine.count(p), reference.count(p));
            case 3 -> due("stratum(" + p + ")", engine.stratum(p), reference.stratum(p));
            default -> due("sizeWithout(" + without + ")", engine.sizeWithout(without),
                    reference.sizeWithout(without));
        }
    }

    private void askFact() {
        int p = predicate();
        int a = constant();
        int b = second(p);
        int what = below(20) == 0 ? oneOf(-1, 3) : below(3);
        int without = below(20) == 0 ? oneOf(-1, Integer.MAX_VALUE) : below(1 << 12) & below(1 << 12);
        int[] known = below(4) == 0 ? null : reference.someFact(below(1 << 20));
        if (known != null) {
            p = known[0];
            a = known[1];
            b = known[2];
        }
        String fact = "(" + p + ", " + a + ", " + b + ")";
        switch (below(8)) {
            case 0 -> due("round" + fact, engine.round(p, a, b), reference.round(p, a, b));
            case 1 -> due("instances" + fact, engine.instances(p, a, b), reference.instances(p, a, b));
            case 2 -> due("cost" + fact, engine.cost(p, a, b), reference.cost(p, a, b));
            case 3 -> due("likelihood" + fact, engine.likelihood(p, a, b), reference.likelihood(p, a, b));
            case 4 -> due("least" + fact + " of " + what, engine.least(p, a, b, what),
                    reference.least(p, a, b, what));
            case 5 -> due("needs" + fact, engine.needs(p, a, b), reference.needs(p, a, b));
            case 6 -> due("cut" + fact, engine.cut(p, a, b), reference.cut(p, a, b));
            default -> due("holdsWithout of " + without + " for " + fact, engine.holdsWithout(without, p, a, b),
                    reference.holdsWithout(without, p, a, b));
        }
    }
}
