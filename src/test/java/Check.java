/** Compares answers with what is due, an exception being written throws.ItsName, and ends the program. */
final class Check {
    interface Call {
        Object answer();
    }

    private int asked = 0;
    private int wrong = 0;

    static String outcome(Call call) {
        try {
            Object answer = call.answer();
            return String.valueOf(answer);
        } catch (RuntimeException e) {
            return "throws." + e.getClass().getSimpleName();
        }
    }

    void due(String name, Call call, Object want) {
        same(name, outcome(call), String.valueOf(want));
    }

    void outOfBounds(String name, Call call) {
        due(name, call, "throws.ArrayIndexOutOfBoundsException");
    }

    void illegalState(String name, Call call) {
        due(name, call, "throws.IllegalStateException");
    }

    void illegalArgument(String name, Call call) {
        due(name, call, "throws.IllegalArgumentException");
    }

    void arithmetic(String name, Call call) {
        due(name, call, "throws.ArithmeticException");
    }

    void same(String name, String got, String want) {
        asked++;
        if (!got.equals(want)) {
            wrong++;
            System.out.println(name + " answered " + got + ", due is " + want);
        }
    }

    /** The coefficients from 0 on; those behind the ones given are due to be 0. */
    void row(String name, ResidueRows x, int p, long... want) {
        for (int k = 0; k < 32; k++) {
            int power = k;
            due(name + ": at(" + p + ", " + k + ")", () -> x.at(p, power), k < want.length ? want[k] : 0);
        }
    }

    void end() {
        System.out.println(asked + " answers, " + wrong + " of them not as due");
        if (wrong != 0 || asked == 0) {
            System.exit(1);
        }
    }

    static void fill(ResidueRows x, int p, long... coefficients) {
        for (int k = 0; k < coefficients.length; k++) {
            x.set(p, k, (int) coefficients[k]);
        }
    }

    static int make(ResidueRows x, long... coefficients) {
        int p = x.poly();
        fill(x, p, coefficients);
        return p;
    }

    /** Gives numbers until only so many are left. */
    static void leave(ResidueRows x, int numbers) {
        for (int next = x.poly(); next < 95 - numbers; next = x.poly()) {
        }
    }
}
