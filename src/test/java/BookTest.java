/** Promises 39 and 41 to 45: the book, what is undone, kept and brought back, and what is counted. */
final class BookTest {
    private BookTest() {
    }

    public static void main(String[] args) {
        Check check = new Check("BookTest");
        book(check);
        thirtyEntries(check);
        undo(check);
        undoOfEachDeed(check);
        eightDeeds(check);
        whatIsNoDeed(check);
        keepsAndBack(check);
        backBringsAllOfAMovement(check);
        backIsADeed(check);
        count(check);
        row(check);
        check.close();
    }

    private static void book(Check check) {
        Desk d = Desk.at(check, Desk.NET, 9999, 0);
        d.x.hours(2);
        d.starts("0-1-2", 0, 0, 7);
        d.starts("0-1", 0, 0, 7);
        d.x.hours(3);
        d.stamps(0, 1);
        d.x.breaks(0);
        d.stamps(1, 1);
        d.x.controls(1, 7);
        d.x.hours(999);
        d.x.pays(0);
        String[] entries = {"6 0 1004", "5 0 122", "4 0 51", "3 1 5", "1 1 5", "2 0 5", "1 0 5", "0 1 2", "0 0 2"};
        for (int i = 0; i < entries.length; i++) {
            check.due("book(" + i + ")", d.book(i), entries[i]);
        }
        d.due("count(7)", d.x.count(7), 9);
        d.due("book(9, 0)", d.x.book(9, 0), -1);
        d.due("book(-1, 0)", d.x.book(-1, 0), -1);
        d.due("book(0, 3)", d.x.book(0, 3), -1);
        d.due("book(0, -1)", d.x.book(0, -1), -1);
        d.due("book(least, 0)", d.x.book(Integer.MIN_VALUE, 0), -1);
        d.due("book(greatest, 0)", d.x.book(Integer.MAX_VALUE, 0), -1);
        d.x.undo();
        d.x.undo();
        check.due("book(0), two deeds undone", d.book(0), "3 1 5");
        d.due("count(7)", d.x.count(7), 6);
    }

    private static void thirtyEntries(Check check) {
        Desk d = Desk.at(check, Desk.NET, 9999, 0);
        for (int m = 0; m < 16; m++) {
            d.starts("0-1", 0, 0, 1);
        }
        for (int m = 0; m < 14; m++) {
            d.x.breaks(m);
        }
        d.due("count(7)", d.x.count(7), 30);
        check.due("book(29)", d.book(29), "0 0 0");
        d.x.breaks(14);
        d.due("count(7)", d.x.count(7), 30);
        d.due("book(30, 0)", d.x.book(30, 0), -1);
        check.due("book(29)", d.book(29), "0 1 0");
        check.due("book(0)", d.book(0), "2 14 0");
        d.x.undo();
        check.due("book(29) is as it was", d.book(29), "0 0 0");
        check.due("book(0)", d.book(0), "2 13 0");
        d.due("hours(999): 32 entries at once", d.x.hours(999), 16);
        d.due("count(7)", d.x.count(7), 30);
        check.due("book(0)", d.book(0), "5 15 106");
        check.due("book(15)", d.book(15), "5 0 106");
        check.due("book(16)", d.book(16), "4 15 35");
        check.due("book(29)", d.book(29), "4 2 35");
        d.x.undo();
        check.due("book(0)", d.book(0), "2 13 0");
        check.due("book(14)", d.book(14), "0 15 0");
        check.due("book(29)", d.book(29), "0 0 0");
    }

    private static void undo(Check check) {
        Desk d = Desk.at(check, Desk.NET, 9999, 0);
        d.due("count(6)", d.x.count(6), 1);
        d.starts("0-1-2", 0, 0, 7);
        d.x.hours(5);
        d.stamps(0, 1);
        d.due("count(6)", d.x.count(6), 4);
        d.due("undo()", d.x.undo(), 3);
        d.due("movement(0, 7)", d.x.movement(0, 7), 1);
        d.due("undo()", d.x.undo(), 2);
        d.due("count(0)", d.x.count(0), 0);
        d.due("undo()", d.x.undo(), 1);
        d.due("count(5)", d.x.count(5), 0);
        d.due("inUse(0)", d.x.inUse(0), 0, "9999 0 9999 0");
        d.due("starts()", d.starts("1-2", 0, 1, 7), 0);
        d.due("movement(0, 4)", d.x.movement(0, 4), 175);
        d.due("undo()", d.x.undo(), 1);
        d.due("undo()", d.x.undo(), 0);
        d.due("count(4)", d.x.count(4), 0);
        d.due("undo()", d.x.undo(), -2);
        d.due("count(2): the net stays", d.x.count(2), 6);
    }

    private static void undoOfEachDeed(Check check) {
        Desk d = Desk.at(check, Desk.NET, 9999, 0);
        d.starts("0-1", 0, 0, 7);
        d.x.sums(0, 500, 2);
        d.x.undo();
        d.due("sums() undone", d.x.inUse(0), 70, "9999 0 9929 1");
        d.x.breaks(0);
        d.x.undo();
        d.due("breaks() undone", d.x.movement(0, 9), 0);
        d.due("count(10)", d.x.count(10), 0);
        d.stamps(0, 1);
        d.x.undo();
        d.due("stamps() undone", d.x.stop(0, 1), 1, "-1");
        d.due("state", d.x.movement(0, 3), 0);
        d.stamps(0, 1);
        d.x.controls(0, 0);
        d.x.undo();
        d.due("controls() undone", d.x.movement(0, 3), 1);
        d.due("debt", d.x.movement(0, 10), 0);
        d.x.controls(0, 0);
        d.x.pays(0);
        d.x.undo();
        d.due("pays() undone", d.x.owes(0), 70, "0");
        d.starts("0-1", 0, 0, 7);
        d.x.hours(35);
        d.x.proves(1);
        d.x.undo();
        d.due("proves() undone", d.x.movement(1, 3), 3);
        d.x.undo();
        d.due("hours() undone", d.x.movement(1, 3), 0);
        d.due("count(0)", d.x.count(0), 0);
        d.x.trader(1, 1);
        d.x.undo();
        d.due("trader() undone", d.x.inUse(1), -1);
    }

    private static void eightDeeds(Check check) {
        Desk d = Desk.at(check, Desk.NET);
        for (int i = 1; i <= 20; i++) {
            d.x.hours(i);
            d.due("count(6)", d.x.count(6), Math.min(i, 8));
        }
        int hour = 210;
        for (int left = 7; left >= 0; left--) {
            d.due("undo()", d.x.undo(), left);
            hour -= 13 + left;
            d.due("count(0)", d.x.count(0), hour);
        }
        d.due("a 9th undo()", d.x.undo(), -2);
        d.due("count(0)", d.x.count(0), 78);
        d.x.hours(1);
        d.due("undo() once more", d.x.undo(), 0);
        d.due("count(0)", d.x.count(0), 78);
    }

    private static void whatIsNoDeed(Check check) {
        Desk d = Desk.at(check, Desk.NET, 100, 0);
        d.starts("0-1", 0, 0, 5);
        d.due("count(6)", d.x.count(6), 2);
        d.x.trader(5, 5);
        d.x.sums(0, 1, 0);
        d.starts("0-1", 0, 0, 50);
        d.x.stamps(0, 2);
        d.x.controls(0, 5);
        d.x.proves(0);
        d.x.pays(0);
        d.x.hours(0);
        d.x.back();
        d.x.keeps();
        d.x.way(0, 1);
        d.fits("0:1", 0);
        d.detour("0-1");
        d.due("count(6): refused, asked, kept", d.x.count(6), 2);
        d.x.breaks(0);
        d.x.breaks(0);
        d.due("count(6)", d.x.count(6), 3);
    }

    private static void keepsAndBack(Check check) {
        Desk d = Desk.at(check, Desk.NET, 1000, 0);
        d.due("back()", d.x.back(), -2);
        d.starts("0-1-2", 0, 0, 7);
        d.x.hours(4);
        d.stamps(0, 1);
        d.due("keeps()", d.x.keeps(), 4);
        d.x.hours(50);
        d.x.breaks(0);
        d.x.trader(7, 1);
        d.x.sums(0, 2000, 3);
        d.starts("3-4", 0, 0, 1);
        d.due("back()", d.x.back(), 4);
        d.due("count(0)", d.x.count(0), 4);
        d.due("count(4)", d.x.count(4), 1);
        d.due("count(5)", d.x.count(5), 1);
        d.due("count(7)", d.x.count(7), 2);
        d.due("count(10)", d.x.count(10), 0);
        d.due("movement(0, 3)", d.x.movement(0, 3), 0);
        d.due("inUse(0)", d.x.inUse(0), 70, "1000 0 930 1");
        d.x.hours(3);
        d.due("back() once more", d.x.back(), 4);
        d.x.hours(6);
        d.due("keeps() in place of it", d.x.keeps(), 10);
        d.x.hours(6);
        d.due("back()", d.x.back(), 10);
        d.due("movement(0, 7)", d.x.movement(0, 7), 2);
        d.net(Desk.NET);
        d.due("back() after net()", d.x.back(), -2);
    }

    private static void backBringsAllOfAMovement(Check check) {
        Desk d = Desk.at(check, Desk.NET, 9999, 1, 9999, 2);
        d.x.hours(2);
        d.starts("3-2-1", 1, 1, 13);
        d.x.hours(3);
        d.stamps(0, 2);
        d.x.keeps();
        d.x.undo();
        d.x.undo();
        d.x.undo();
        d.x.hours(50);
        d.due("another movement 0", d.starts("0-1", 0, 0, 6), 0);
        d.x.breaks(0);
        d.stamps(0, 1);
        d.x.controls(0, 1);
        d.x.back();
        long[] all = {1, 1, 13, 0, 325, 33, 48, 2, 2, 0, 0, 0, 3};
        for (int what = 0; what < all.length; what++) {
            d.due("movement(0, " + what + ") that was kept", d.x.movement(0, what), all[what]);
        }
        d.due("stop(0, 0)", d.x.stop(0, 0), 3, "2");
        d.due("stop(0, 1)", d.x.stop(0, 1), 2, "5");
        d.due("stop(0, 2)", d.x.stop(0, 2), 1, "-1");
        check.due("book(0)", d.book(0), "1 0 5");
        check.due("book(1)", d.book(1), "0 0 2");
        d.due("count(7)", d.x.count(7), 2);
        d.x.undo();
        long[] another = {0, 0, 6, 4, 60, 30, 86, 2, 1, 1, 100, 0, 2};
        for (int what = 0; what < another.length; what++) {
            d.due("movement(0, " + what + ") as it was", d.x.movement(0, what), another[what]);
        }
    }

    private static void backIsADeed(Check check) {
        Desk d = Desk.at(check, Desk.NET, 1000, 0);
        d.x.keeps();
        d.due("count(6)", d.x.count(6), 1);
        d.starts("0-1-2", 0, 0, 7);
        d.x.hours(9);
        d.due("back()", d.x.back(), 0);
        d.due("count(6)", d.x.count(6), 4);
        d.due("count(5)", d.x.count(5), 0);
        d.due("undo() of back()", d.x.undo(), 3);
        d.due("count(5)", d.x.count(5), 1);
        d.due("count(0)", d.x.count(0), 9);
        d.due("undo() of hours()", d.x.undo(), 2);
        d.due("count(0)", d.x.count(0), 0);
        d.due("back(), kept still", d.x.back(), 0);
        d.due("undo()", d.x.undo(), 2);
        d.due("undo()", d.x.undo(), 1);
        d.due("undo()", d.x.undo(), 0);
        d.due("count(4)", d.x.count(4), 0);
        d.due("back() of what is undone", d.x.back(), 0);
        d.due("count(4)", d.x.count(4), 1);
        d.due("inUse(0)", d.x.inUse(0), 0, "1000 0 1000 0");
    }

    private static void count(Check check) {
        Desk d = Desk.at(check, Desk.NET, 1000, 0, 5, 1);
        d.x.hours(12);
        d.starts("0-1-2", 0, 0, 7);
        d.starts("0-1-2", 0, 0, 7);
        d.starts("0-1-2", 0, 0, 7);
        d.stamps(1, 1);
        d.x.breaks(2);
        d.x.breaks(0);
        d.x.way(0, 3);
        d.text("0-1-2");
        long[] counts = {12, 5, 6, 2, 2, 3, 8, 6, 4, 5, 2};
        for (int what = 0; what < counts.length; what++) {
            d.due("count(" + what + ")", d.x.count(what), counts[what]);
        }
        d.due("count(-1)", d.x.count(-1), -1);
        d.due("count(11)", d.x.count(11), -1);
        d.due("count(least)", d.x.count(Integer.MIN_VALUE), -1);
        d.due("count(greatest)", d.x.count(Integer.MAX_VALUE), -1);
    }

    private static void row(Check check) {
        Desk d = Desk.at(check, Desk.NET, 1000, 0);
        check.due("row(0) of none throws", d.hasRow(0), false);
        d.x.way(3, 0);
        d.due("row(0)", d.x.row(0), 3);
        d.due("row(3)", d.x.row(3), 0);
        check.due("row(4) throws", d.hasRow(4), false);
        check.due("row(-1) throws", d.hasRow(-1), false);
        d.x.inUse(0);
        d.due("row(0)", d.x.row(0), 1000);
        d.due("row(2)", d.x.row(2), 1000);
        check.due("row(4) throws", d.hasRow(4), false);
        d.x.owes(0);
        check.due("row(0)", d.hasRow(0), true);
        check.due("row(1) throws", d.hasRow(1), false);
        d.starts("0-1", 0, 0, 2);
        d.x.hours(50);
        d.x.left(0);
        d.due("row(0) below 0", d.x.row(0), -16);
    }
}
