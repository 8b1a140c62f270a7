import java.util.Arrays;
import java.util.Random;

/** Promises 1 to 13: long runs of calls of all kinds, wrong ones too, on the class and on the model. */
final class ModelTest {
    private static final int[] NUMBERS = {-5, 1, 2, 3, 4, 5, 7, 10, 11, 13, 23, 31, 37, 67};
    private static final int[] DEGREES = {12, 12, 12, 7, 7, 5, 4, 4, 3, 3, 2, 2, 2, 2};
    private static final int[] EDGES = {0, 1, -1, 2, 31, 32, Integer.MAX_VALUE, Integer.MIN_VALUE};

    private static final Check check = new Check();
    private static Random random;
    private static ResidueRows x;
    private static Model model;
    private static int calls;
    private static int lifted = 0;
    private static int factored = 0;
    private static int degreeBound;

    public static void main(String[] args) {
        for (int run = 0; run < 3000; run++) {
            random = new Random(run);
            int kind = run % NUMBERS.length;
            x = new ResidueRows(NUMBERS[kind]);
            model = new Model(NUMBERS[kind]);
            degreeBound = DEGREES[kind];
            calls = 0;
            int ahead = random.nextInt(5) == 0 ? 60 + random.nextInt(37) : 0;
            while (calls < ahead) {
                due("poly()", () -> x.poly(), () -> model.poly());
            }
            while (calls < 450) {
                step("run " + run + ", call " + calls + ": ");
            }
        }
        check.same("runs that lift and factor", String.valueOf(lifted > 1000 && factored > 5000), "true");
        check.end();
    }

    private static void due(String name, Check.Call got, Check.Call want) {
        calls++;
        check.same(name, Check.outcome(got), Check.outcome(want));
    }

    private static int polynomial() {
        int kind = random.nextInt(40);
        if (kind == 0) {
            return random.nextBoolean() ? -1 - random.nextInt(3) : 96 + random.nextInt(3);
        }
        if (kind == 1) {
            return EDGES[random.nextInt(EDGES.length)];
        }
        return kind < 6 ? random.nextInt(96) : Math.max(0, Math.min(95, model.next - random.nextInt(8)));
    }

    private static int value() {
        return random.nextInt(6) == 0 ? EDGES[random.nextInt(EDGES.length)] : random.nextInt();
    }

    private static int index() {
        return random.nextInt(20) == 0 ? EDGES[random.nextInt(EDGES.length)] : random.nextInt(4);
    }

    private static void step(String where) {
        int a = polynomial();
        int b = polynomial();
        int k = index();
        int v = value();
        switch (random.nextInt(15)) {
            case 0 -> due(where + "poly()", () -> x.poly(), () -> model.poly());
            case 1, 2, 3 -> setSome(where, a);
            case 4 -> due(where + "times(" + a + ", " + b + ")", () -> x.times(a, b), () -> model.times(a, b));
            case 5 -> divide(where, a, b);
            case 6 -> due(where + "gcd(" + a + ", " + b + ")", () -> x.gcd(a, b), () -> model.gcd(a, b));
            case 7, 8 -> factor(where, a);
            case 9 -> due(where + "factorOf(" + k + ")", () -> x.factorOf(k), () -> model.factorOf(k));
            case 10 -> due(where + "multiplicity(" + k + ")", () -> x.multiplicity(k), () -> model.multiplicity(k));
            case 11 -> due(where + "root(" + a + ", " + k + ")", () -> x.root(a, k), () -> model.root(a, k));
            case 12 -> due(where + "inverse(" + v + ")", () -> x.inverse(v), () -> model.inverse(v));
            case 13 -> lift(where, k);
            default -> look(where, a);
        }
        look(where, Math.max(0, model.next - 1));
    }

    private static void setSome(String where, int p) {
        for (int i = 0; i < 4; i++) {
            int k = random.nextInt(60) == 0 ? value() : random.nextInt(degreeBound + 1);
            int v = value();
            due(where + "set(" + p + ", " + k + ", " + v + ")", () -> x.set(p, k, v), () -> model.set(p, k, v));
        }
    }

    private static void divide(String where, int a, int b) {
        int what = random.nextInt(10) == 0 ? value() : random.nextInt(2);
        due(where + "over(" + a + ", " + b + ", " + what + ")", () -> x.over(a, b, what), () -> model.over(a, b, what));
    }

    private static void factor(String where, int p) {
        if (p >= 0 && p < 96 && model.distinctFactors(model.residues(p)) == null) {
            return;
        }
        long seed = random.nextLong();
        due(where + "factor(" + p + ", " + seed + ")", () -> x.factor(p, seed), () -> model.factor(p));
        factored++;
        for (int k = 0; k < model.factors.size(); k++) {
            int which = k;
            due(where + "factorOf(" + k + ")", () -> x.factorOf(which), () -> model.factorOf(which));
            due(where + "multiplicity(" + k + ")", () -> x.multiplicity(which), () -> model.multiplicity(which));
            look(where, model.numbers.get(k));
        }
    }

    private static void lift(String where, int k) {
        int power = random.nextInt(6) == 0 ? value() : random.nextInt(6);
        int number = model.next;
        due(where + "lift(" + k + ", " + power + ")", () -> x.lift(k, power), () -> model.lift(k, power));
        if (model.next == number) {
            return;
        }
        lifted++;
        calls += 32;
        long[] row = Naive.row(x, number);
        boolean right = Naive.isLifted(row, model.factors.get(k), model.whole, model.prime, model.modulus(power));
        check.same(where + "lift(" + k + ", " + power + ") is right", String.valueOf(right), "true");
        model.rows[number] = Arrays.copyOf(row, 32);
    }

    private static void look(String where, int p) {
        int k = random.nextInt(20) == 0 ? value() : random.nextInt(degreeBound + 2);
        due(where + "at(" + p + ", " + k + ")", () -> x.at(p, k), () -> model.at(p, k));
    }
}
