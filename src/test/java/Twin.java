import java.util.ArrayList;
import java.util.List;

/** Looks whether a call changes any answer of later calls: two objects are made alike, and one gets the call. */
final class Twin {
    interface Recipe {
        void fill(ResidueRows x);
    }

    interface On {
        Object answer(ResidueRows x);
    }

    // A recipe, the call itself and the questions of one slice stay below the 512 calls of one object.
    private static final int ROWS_AT_ONCE = 8;

    private final Check check;
    private final int number;
    private final Recipe recipe;
    private final List<List<String>> untouched;

    Twin(Check check, int number, Recipe recipe) {
        this.check = check;
        this.number = number;
        this.recipe = recipe;
        untouched = answers(x -> "");
    }

    /** The call's answer is as due, and all later answers are those of an object that never got the call. */
    void changesNothing(String name, On call, String want) {
        ResidueRows x = make();
        check.due(name, () -> call.answer(x), want);
        check.due(name + ", once more", () -> call.answer(x), want);
        List<List<String>> touched = answers(call);
        for (int slice = 0; slice < touched.size(); slice++) {
            check.same(name + ", then the later answers " + slice, touched.get(slice).toString(),
                    untouched.get(slice).toString());
        }
    }

    private ResidueRows make() {
        ResidueRows x = new ResidueRows(number);
        recipe.fill(x);
        return x;
    }

    private List<List<String>> answers(On call) {
        List<List<String>> all = new ArrayList<>();
        for (int first = 0; first < 96; first += ROWS_AT_ONCE) {
            int from = first;
            all.add(after(call, (x, to) -> coefficients(x, from, to)));
        }
        all.add(after(call, Twin::reads));
        all.add(after(call, Twin::lifts));
        all.add(after(call, Twin::makers));
        all.add(after(call, Twin::factors));
        all.add(after(call, Twin::numbers));
        return all;
    }

    private interface Questions {
        void ask(ResidueRows x, List<String> to);
    }

    private List<String> after(On call, Questions questions) {
        ResidueRows x = make();
        Check.outcome(() -> call.answer(x));
        List<String> to = new ArrayList<>();
        questions.ask(x, to);
        return to;
    }

    private static void coefficients(ResidueRows x, int first, List<String> to) {
        for (int p = first; p < first + ROWS_AT_ONCE; p++) {
            row(x, p, to);
        }
    }

    private static void row(ResidueRows x, int p, List<String> to) {
        for (int k = 0; k < 32; k++) {
            to.add(String.valueOf(x.at(p, k)));
        }
    }

    private static void reads(ResidueRows x, List<String> to) {
        for (int k = -1; k <= 31; k++) {
            int which = k;
            to.add(Check.outcome(() -> x.factorOf(which)));
            to.add(Check.outcome(() -> x.multiplicity(which)));
        }
        for (int p = 0; p < 96; p++) {
            to.add(String.valueOf(x.root(p, 0)));
        }
        for (int v = 0; v < 8; v++) {
            int value = v;
            to.add(Check.outcome(() -> x.inverse(value)));
        }
        for (int p = 0; p < 96; p++) {
            to.add(String.valueOf(x.set(p, 0, 1)));
        }
    }

    private static void lifts(ResidueRows x, List<String> to) {
        for (int k = 0; k < 4; k++) {
            int which = k;
            String answer = Check.outcome(() -> x.lift(which, 3));
            to.add(answer);
            if (answer.matches("\\d+")) {
                row(x, Integer.parseInt(answer), to);
            }
        }
    }

    private static void makers(ResidueRows x, List<String> to) {
        to.add(Check.outcome(() -> x.times(0, 1)));
        to.add(Check.outcome(() -> x.over(2, 1, 0)));
        to.add(Check.outcome(() -> x.over(2, 1, 1)));
        to.add(Check.outcome(() -> x.gcd(2, 1)));
        to.add(Check.outcome(() -> x.poly()));
        coefficients(x, 96 - ROWS_AT_ONCE, to);
    }

    private static void factors(ResidueRows x, List<String> to) {
        for (int p = 0; p < 6; p++) {
            int which = p;
            to.add(Check.outcome(() -> x.factor(which, 0)));
            to.add(Check.outcome(() -> x.factorOf(0)));
            to.add(Check.outcome(() -> x.multiplicity(0)));
        }
    }

    private static void numbers(ResidueRows x, List<String> to) {
        for (int n = 0; n < 97; n++) {
            to.add(Check.outcome(() -> x.poly()));
        }
    }
}
