/** Promises 1 to 3 and the terms: a new object, THE TEXT, the ROW. */
final class TextTest {
    private TextTest() {
    }

    public static void main(String[] args) {
        Check check = new Check("TextTest");
        aNewObject(check);
        signsComeBehind(check);
        noMoreThanTwoHundred(check);
        anEnd(check);
        aReadTextIsEmptied(check);
        rowsStay(check);
        check.close();
    }

    private static void aNewObject(Check check) {
        TransitSeals x = new TransitSeals();
        long[] counts = {0, 2, 0, 0, 0, 0, 0, 0, 0, 0, 0};
        for (int what = 0; what < counts.length; what++) {
            check.due("new: count(" + what + ")", x.count(what), counts[what]);
        }
        check.due("new: office(0, 0)", x.office(0, 0), 0);
        check.due("new: office(1, 0)", x.office(1, 0), 0);
        check.due("new: office(2, 0)", x.office(2, 0), -1);
        check.due("new: road(0, 1)", x.road(0, 1), -2);
        check.due("new: way(0, 1)", x.way(0, 1), -2);
        check.due("new: routes(0, 1)", x.routes(0, 1), -2);
        check.due("new: inUse(0)", x.inUse(0), -1);
        check.due("new: can(0, 0)", x.can(0, 0), -1);
        check.due("new: movement(0, 0)", x.movement(0, 0), -1);
        check.due("new: book(0, 0)", x.book(0, 0), -1);
        check.due("new: undo()", x.undo(), -2);
        check.due("new: back()", x.back(), -2);
        check.due("new: late()", x.late(), 0);
        check.due("new: written", new Desk(check).written(), "00|");
    }

    private static void signsComeBehind(Check check) {
        TransitSeals x = new TransitSeals();
        check.due("sign of 00|0", x.sign(0x30307c30), 4);
        check.due("sign of -1:7", x.sign(0x2d313a37), 8);
        check.due("count(9)", x.count(9), 8);
        check.due("net() of 00|0-1:7", x.net(), 2);
        check.due("road(0, 1)", x.road(0, 1), 7);
        check.due("count(9) after net()", x.count(9), 0);
        // Signs above 127: the highest byte must not be taken for a number below 0.
        x.sign(0xff303030);
        check.due("net() of a sign 255", x.net(), -21);
        x.sign(0x3030ff30);
        check.due("net() of 00 and a sign 255", x.net(), -23);
    }

    private static void noMoreThanTwoHundred(Check check) {
        TransitSeals x = new TransitSeals();
        for (int i = 1; i <= 50; i++) {
            check.due("sign " + i, x.sign(0), 4 * i);
        }
        check.due("the 51st sign()", x.sign(0), -1);
        check.due("count(9)", x.count(9), 200);
        check.due("end(197)", x.end(197), true);
        check.due("sign() behind 197", x.sign(0), -1);
        check.due("count(9)", x.count(9), 197);
        check.due("end(196)", x.end(196), true);
        check.due("sign() behind 196", x.sign(0), 200);
    }

    private static void anEnd(Check check) {
        TransitSeals x = new TransitSeals();
        check.due("end(0) of none", x.end(0), true);
        check.due("end(1) of none", x.end(1), false);
        x.sign(0x30307c30);
        check.due("end(-1)", x.end(-1), false);
        check.due("end(5)", x.end(5), false);
        check.due("count(9)", x.count(9), 4);
        check.due("end(4)", x.end(4), true);
        check.due("count(9)", x.count(9), 4);
        check.due("end(3)", x.end(3), true);
        check.due("count(9)", x.count(9), 3);
        check.due("net() of 00|", x.net(), 2);
    }

    private static void aReadTextIsEmptied(Check check) {
        Desk d = Desk.at(check, Desk.NET, 5, 0);
        d.due("net()", d.net("0x"), -22);
        d.due("count(9) after a refused net()", d.x.count(9), 0);
        d.due("starts()", d.starts("0-x", 0, 0, 1), -23);
        d.due("count(9) after starts() with a wrong text", d.x.count(9), 0);
        d.due("starts()", d.starts("0-1", 9, 0, 1), -1);
        d.due("count(9) after starts() of no trader", d.x.count(9), 0);
        d.due("starts()", d.starts("0-1", 0, 0, 1), -3);
        d.due("count(9) after starts() above the sum", d.x.count(9), 0);
        d.due("fits()", d.fits("0:1", 3), -1);
        d.due("count(9) after fits() of no trader", d.x.count(9), 0);
        d.due("fits()", d.fits("0:1", 0), 0);
        d.due("count(9) after fits()", d.x.count(9), 0);
        d.due("detour()", d.detour("0-1"), 0);
        d.due("count(9) after detour()", d.x.count(9), 0);
        d.due("detour()", d.detour("1"), -22);
        d.due("count(9) after a refused detour()", d.x.count(9), 0);
        d.text("0-1");
        d.x.way(0, 4);
        d.x.trader(1, 1);
        d.x.undo();
        d.due("count(9): other calls leave the text", d.x.count(9), 3);
    }

    private static void rowsStay(Check check) {
        Desk d = Desk.at(check, Desk.NET, 1000, 0);
        check.due("no row at first", d.hasRow(0), false);
        d.due("way(0, 2)", d.x.way(0, 2), 12, "0 1 2");
        check.due("row(-1) throws", d.hasRow(-1), false);
        check.due("row(2)", d.hasRow(2), true);
        check.due("row(3) throws", d.hasRow(3), false);
        check.due("row(2147483647) throws", d.hasRow(Integer.MAX_VALUE), false);
        check.due("row(-2147483648) throws", d.hasRow(Integer.MIN_VALUE), false);
        d.due("way(0, 9)", d.x.way(0, 9), -1, "0 1 2");
        d.due("frees(0, 1001)", d.x.frees(0, 1001), -2, "0 1 2");
        d.due("detour()", d.detour("0-4"), -23, "0 1 2");
        d.due("road(0, 1)", d.x.road(0, 1), 5, "0 1 2");
        d.due("when(0, 1)", d.x.when(0, 1), 0, "0 1 2");
        d.due("starts()", d.starts("0-1", 0, 0, 1), 0, "0 1 2");
        d.due("hours(1)", d.x.hours(1), 0, "0 1 2");
        d.due("undo()", d.x.undo(), 2, "0 1 2");
        d.due("keeps()", d.x.keeps(), 0, "0 1 2");
        d.due("back()", d.x.back(), 0, "0 1 2");
        d.due("net()", d.net("00"), -23, "0 1 2");
        d.due("net()", d.net("00|"), 2, "");
    }
}
