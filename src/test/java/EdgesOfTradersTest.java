import java.io.IOException;

/** Each sentence of promises 10 to 13: traders. */
final class EdgesOfTradersTest {
    private EdgesOfTradersTest() {
    }

    public static void main(String[] args) throws IOException {
        Edges e = new Edges("EdgesOfTradersTest", "Promise 10", "Promise 11", "Promise 12", "Promise 13");
        e.of("Promise 10", "A TRADER more: its number.", EdgesOfTradersTest::aTraderMore);
        e.of("Promise 10", "-2: there are 6;", EdgesOfTradersTest::thereAreSix);
        e.of("Promise 10", "NONE: numbers.", EdgesOfTradersTest::numbersOfATrader);
        e.of("Promise 11", "SUM and LEVEL of a TRADER become these: what is IN USE.", EdgesOfTradersTest::sumAndLevel);
        e.of("Promise 11", "NONE: numbers, too;", EdgesOfTradersTest::numbersOfSums);
        e.of("Promise 11", "-2: more than SUM would be IN USE.", EdgesOfTradersTest::moreThanSum);
        e.of("Promise 12", "IN USE of a TRADER;", EdgesOfTradersTest::inUse);
        e.of("Promise 12", "the ROW: SUM, LEVEL, what of SUM is free, its MOVEMENTS that are not CLOSED, not PAID, as bits.",
            EdgesOfTradersTest::rowOfInUse);
        e.of("Promise 13", "DEBTS of a TRADER that are not PAID;", EdgesOfTradersTest::debts);
        e.of("Promise 13", "the ROW: those PAID.", EdgesOfTradersTest::debtsPaid);
        e.close();
    }

    private static void aTraderMore(Check check) {
        TransitSeals x = new TransitSeals();
        for (int t = 0; t < 6; t++) {
            check.due("trader(" + t + ", 0)", x.trader(t, 0), t);
            check.due("count(4)", x.count(4), t + 1);
        }
        check.due("undo()", x.undo(), 5);
        check.due("trader(9, 3) in place of the one undone", x.trader(9, 3), 5);
    }

    private static void thereAreSix(Check check) {
        TransitSeals x = new TransitSeals();
        for (int t = 0; t < 6; t++) {
            x.trader(t, 0);
        }
        check.due("trader(6, 0)", x.trader(6, 0), -2);
        check.due("count(4)", x.count(4), 6);
        check.due("count(6)", x.count(6), 6);
    }

    private static void numbersOfATrader(Check check) {
        TransitSeals x = new TransitSeals();
        for (int sum : new int[] {Integer.MIN_VALUE, -1, 1000000, Integer.MAX_VALUE}) {
            check.due("trader(" + sum + ", 0)", x.trader(sum, 0), -1);
        }
        for (int level : new int[] {Integer.MIN_VALUE, -1, 4, Integer.MAX_VALUE}) {
            check.due("trader(0, " + level + ")", x.trader(0, level), -1);
        }
        check.due("count(4)", x.count(4), 0);
        check.due("count(6)", x.count(6), 0);
        check.due("trader(0, 3)", x.trader(0, 3), 0);
        check.due("trader(999999, 0)", x.trader(999999, 0), 1);
    }

    private static void sumAndLevel(Check check) {
        Desk d = Desk.at(check, Desk.NET, 1000, 0);
        d.due("sums(0, 0, 3), nothing in use", d.x.sums(0, 0, 3), 0);
        d.due("inUse(0)", d.x.inUse(0), 0, "0 3 0 0");
        d.due("sums(0, 999999, 1)", d.x.sums(0, 999999, 1), 0);
        d.dueStarts("0-1", 0, 1, 1, 0);
        d.due("sums(0, 999999, 0)", d.x.sums(0, 999999, 0), 13);
        d.due("inUse(0): half of 25, as it was asked for", d.x.inUse(0), 13, "999999 0 999986 1");
        d.due("sums(0, 999999, 0) once more", d.x.sums(0, 999999, 0), 13);
    }

    private static void numbersOfSums(Check check) {
        Desk d = Desk.at(check, Desk.NET, 1000, 2, 50, 1);
        for (int sum : new int[] {Integer.MIN_VALUE, -1, 1000000, Integer.MAX_VALUE}) {
            d.due("sums(0, " + sum + ", 0)", d.x.sums(0, sum, 0), -1);
        }
        for (int level : new int[] {Integer.MIN_VALUE, -1, 4, Integer.MAX_VALUE}) {
            d.due("sums(0, 5, " + level + ")", d.x.sums(0, 5, level), -1);
        }
        d.due("sums(2, 5, 0)", d.x.sums(2, 5, 0), -1);
        d.due("sums(-1, 5, 0)", d.x.sums(-1, 5, 0), -1);
        d.due("inUse(0)", d.x.inUse(0), 0, "1000 2 1000 0");
        d.due("inUse(1)", d.x.inUse(1), 0, "50 1 50 0");
        d.due("count(6)", d.x.count(6), 2);
    }

    private static void moreThanSum(Check check) {
        Desk d = Desk.at(check, Desk.NET, 1000, 0);
        d.dueStarts("0-1", 0, 0, 50, 0);
        d.due("sums(0, 499, 0)", d.x.sums(0, 499, 0), -2);
        d.due("sums(0, 0, 3)", d.x.sums(0, 0, 3), -2);
        d.due("inUse(0)", d.x.inUse(0), 500, "1000 0 500 1");
        d.due("sums(0, 500, 0)", d.x.sums(0, 500, 0), 500);
        d.due("inUse(0)", d.x.inUse(0), 500, "500 0 0 1");
        d.stamps(0, 1);
        d.x.controls(0, 50);
        d.due("sums(0, 0, 0), all is closed", d.x.sums(0, 0, 0), 0);
    }

    private static void inUse(Check check) {
        Desk d = Twins.busy(check);
        d.due("inUse(0): two are sought, one is rolling", d.x.inUse(0), 400);
        d.due("inUse(1): one is owed", d.x.inUse(1), 9);
        d.due("inUse(2): free of it", d.x.inUse(2), 0);
        d.net(EdgesOfTermsTest.LINE);
        d.x.trader(999999, 0);
        d.due("inUse(0) of none", d.x.inUse(0), 0);
        d.net("00|0-1:1|999");
        d.x.trader(998002, 0);
        d.dueStarts("0-1", 0, 0, 999, 0);
        d.due("inUse(0): the greatest share", d.x.inUse(0), 998001, "998002 0 1 1");
    }

    private static void rowOfInUse(Check check) {
        Desk d = Twins.busy(check);
        d.due("inUse(0): not those closed and paid", d.x.inUse(0), 400, "1000 0 600 104");
        d.due("inUse(1): one is owed", d.x.inUse(1), 9, "500 2 491 4");
        d.due("inUse(2): one is arrived, free of a share", d.x.inUse(2), 0, "0 3 0 16");
        d.net("00|0-1:1|1");
        d.x.trader(20, 0);
        d.due("inUse(0): all is free", d.x.inUse(0), 0, "20 0 20 0");
        for (int m = 0; m < 20; m++) {
            d.starts("0-1", 0, 0, 1);
        }
        d.due("inUse(0): nothing is free, all bits", d.x.inUse(0), 20, "20 0 0 1048575");
    }

    private static void debts(Check check) {
        Desk d = Twins.busy(check);
        d.due("owes(1): one is owed", d.x.owes(1), 40);
        d.due("owes(0): one is paid", d.x.owes(0), 0);
        d.due("owes(2): none was", d.x.owes(2), 0);
        // Movement 5 is owed at hour 118, movement 3 at hour 120.
        d.x.hours(57);
        d.due("owes(0): an hour ahead of it", d.x.owes(0), 0);
        d.x.hours(1);
        d.due("owes(0): one more is owed", d.x.owes(0), 50);
        d.x.hours(2);
        d.due("owes(0): two more are owed", d.x.owes(0), 250);
        d.x.pays(Twins.OWED);
        d.due("owes(1): it is paid", d.x.owes(1), 0);
    }

    private static void debtsPaid(Check check) {
        Desk d = Twins.busy(check);
        d.due("owes(0)", d.x.owes(0), 0, "100");
        d.due("owes(1)", d.x.owes(1), 40, "0");
        d.due("owes(2)", d.x.owes(2), 0, "0");
        d.x.hours(60);
        d.x.pays(Twins.SOUGHT);
        d.due("owes(0): two are paid", d.x.owes(0), 200, "150");
        d.x.pays(Twins.SOUGHT_BROKEN);
        d.due("owes(0): three are paid", d.x.owes(0), 0, "350");
        d.due("owes(3)", d.x.owes(3), -1, "350");
    }
}
