/** Promises 10 to 13: traders, their sums, what is in use and what they owe. */
final class TradersTest {
    private TradersTest() {
    }

    public static void main(String[] args) {
        Check check = new Check("TradersTest");
        traders(check);
        sums(check);
        inUse(check);
        owes(check);
        check.close();
    }

    private static void traders(Check check) {
        Desk d = Desk.at(check, Desk.NET);
        d.due("trader(0, 0)", d.x.trader(0, 0), 0);
        d.due("trader(999999, 3)", d.x.trader(999999, 3), 1);
        d.due("trader(1000000, 0)", d.x.trader(1000000, 0), -1);
        d.due("trader(-1, 0)", d.x.trader(-1, 0), -1);
        d.due("trader(5, -1)", d.x.trader(5, -1), -1);
        d.due("trader(5, 4)", d.x.trader(5, 4), -1);
        d.due("count(4)", d.x.count(4), 2);
        d.due("count(6)", d.x.count(6), 2);
        for (int t = 2; t < 6; t++) {
            d.due("trader " + t, d.x.trader(10 * t, 1), t);
        }
        d.due("a 7th trader", d.x.trader(5, 0), -2);
        d.due("a 7th trader with a wrong level", d.x.trader(5, 4), -1);
        d.due("count(4)", d.x.count(4), 6);
        d.due("count(6)", d.x.count(6), 6);
        d.due("inUse(5)", d.x.inUse(5), 0, "50 1 50 0");
        d.due("inUse(6)", d.x.inUse(6), -1);
    }

    private static void sums(Check check) {
        Desk d = Desk.at(check, Desk.NET, 1000, 0, 70, 1);
        d.starts("0-1", 0, 0, 50);
        d.due("sums(0, 499, 0)", d.x.sums(0, 499, 0), -2);
        d.due("sums(0, 500, 2)", d.x.sums(0, 500, 2), 500);
        d.due("inUse(0)", d.x.inUse(0), 500, "500 2 0 1");
        d.due("sums(0, 999999, 3)", d.x.sums(0, 999999, 3), 500);
        d.due("inUse(0): the share stays as it was asked for", d.x.inUse(0), 500, "999999 3 999499 1");
        d.due("sums(1, 0, 0)", d.x.sums(1, 0, 0), 0);
        d.due("inUse(1)", d.x.inUse(1), 0, "0 0 0 0");
        d.due("sums(2, 1, 0)", d.x.sums(2, 1, 0), -1);
        d.due("sums(-1, 1, 0)", d.x.sums(-1, 1, 0), -1);
        d.due("sums(0, -1, 0)", d.x.sums(0, -1, 0), -1);
        d.due("sums(0, 1000000, 0)", d.x.sums(0, 1000000, 0), -1);
        d.due("sums(0, 1, 4)", d.x.sums(0, 1, 4), -1);
        d.due("sums(0, 1, -1)", d.x.sums(0, 1, -1), -1);
        d.due("count(6)", d.x.count(6), 6);
        d.due("undo()", d.x.undo(), 5);
        d.due("inUse(1)", d.x.inUse(1), 0, "70 1 70 0");
        d.stamps(0, 1);
        d.x.controls(0, 50);
        d.due("sums(0, 0, 0) when all is closed", d.x.sums(0, 0, 0), 0);
    }

    private static void inUse(Check check) {
        Desk d = Desk.at(check, Desk.NET, 1000, 0, 1000, 1, 1000, 2, 1000, 3);
        for (int t = 0; t < 4; t++) {
            d.due("starts 1", d.starts("0-1", t, 1, 3), 2 * t);
            d.due("starts 2", d.starts("1-2-3", t, 0, 1), 2 * t + 1);
        }
        // Duties of 75 and 10: half of 75 and a tenth of it are rounded up.
        d.due("inUse(0)", d.x.inUse(0), 85, "1000 0 915 3");
        d.due("inUse(1)", d.x.inUse(1), 43, "1000 1 957 12");
        d.due("inUse(2)", d.x.inUse(2), 9, "1000 2 991 48");
        d.due("inUse(3)", d.x.inUse(3), 0, "1000 3 1000 192");
        d.due("inUse(4)", d.x.inUse(4), -1, "1000 3 1000 192");
        d.due("inUse(-1)", d.x.inUse(-1), -1);
        d.stamps(0, 1);
        d.due("inUse(0), one is arrived", d.x.inUse(0), 85, "1000 0 915 3");
        d.x.controls(0, 3);
        d.due("inUse(0), one is closed", d.x.inUse(0), 10, "1000 0 990 2");
        d.stamps(2, 1);
        d.x.controls(2, 1);
        d.due("inUse(1), one is owed", d.x.inUse(1), 43, "1000 1 957 12");
        d.x.pays(2);
        d.due("inUse(1), one is paid", d.x.inUse(1), 5, "1000 1 995 8");
        d.x.hours(50);
        d.due("inUse(2), sought", d.x.inUse(2), 9, "1000 2 991 48");
    }

    private static void owes(Check check) {
        Desk d = Desk.at(check, Desk.NET, 1000, 0, 1000, 3);
        d.starts("0-1", 0, 0, 10);
        d.starts("0-1", 0, 1, 4);
        d.starts("0-1", 1, 0, 7);
        d.due("owes(0)", d.x.owes(0), 0, "0");
        for (int m = 0; m < 3; m++) {
            d.stamps(m, 1);
        }
        d.x.controls(0, 8);
        d.x.controls(1, 0);
        d.x.controls(2, 6);
        d.due("owes(0)", d.x.owes(0), 120, "0");
        d.due("owes(1)", d.x.owes(1), 10, "0");
        d.x.pays(1);
        d.due("owes(0), one is paid", d.x.owes(0), 20, "100");
        d.x.pays(0);
        d.due("owes(0), both are paid", d.x.owes(0), 0, "120");
        d.due("owes(2)", d.x.owes(2), -1, "120");
        d.due("owes(-1)", d.x.owes(-1), -1);
    }
}
