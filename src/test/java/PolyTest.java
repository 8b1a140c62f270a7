/** Promise 2: poly. */
final class PolyTest {
    public static void main(String[] args) {
        Check check = new Check();
        check.says("The next number; its polynomial becomes 0.");
        ResidueRows x = new ResidueRows(11);
        x.set(0, 3, 4);
        x.set(1, 31, 4);
        x.set(95, 5, 4);
        check.due("poly()", () -> x.poly(), 0);
        check.row("poly 0 becomes 0", x, 0);
        check.due("at(1, 31)", () -> x.at(1, 31), 4);
        check.due("poly()", () -> x.poly(), 1);
        check.row("poly 1 becomes 0", x, 1);
        for (int n = 2; n < 95; n++) {
            check.due("poly()", () -> x.poly(), n);
        }
        check.due("at(95, 5)", () -> x.at(95, 5), 4);
        check.due("poly()", () -> x.poly(), 95);
        check.due("at(95, 5)", () -> x.at(95, 5), 0);
        x.set(95, 5, 7);
        check.says("IllegalStateException: no number is left (95 was given), or as said");
        check.illegalState("poly()", () -> x.poly());
        check.illegalState("poly()", () -> x.poly());
        check.due("at(95, 5)", () -> x.at(95, 5), 7);
        check.end();
    }
}
