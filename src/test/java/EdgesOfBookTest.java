import java.io.IOException;

/** Each sentence of promises 39 and 41 to 45: the book, undone, counted. */
final class EdgesOfBookTest {
    private static final String LINE = EdgesOfTermsTest.LINE;

    private EdgesOfBookTest() {
    }

    public static void main(String[] args) throws IOException {
        Edges e = new Edges("EdgesOfBookTest", "Promise 39", "Promise 41", "Promise 42", "Promise 43", "Promise 44", "Promise 45");
        e.of("Promise 39", "THE BOOK, the latest 30 entries (undone ones gone), i 0 the latest:", EdgesOfBookTest::latestThirty);
        e.of("Promise 39", "(undone ones gone),", EdgesOfBookTest::undoneEntries);
        e.of("Promise 39", "what 0: 0 started, 1 STAMPED, 2 broken, 3 CLOSED, 4 SOUGHT, 5 OWED, 6 PAID; 1: MOVEMENT;", EdgesOfBookTest::kinds);
        e.of("Promise 39", "2: HOUR (of SOUGHT: TERM and 1; of OWED by HOURS: TERM and 72).", EdgesOfBookTest::hoursOfEntries);
        e.of("Promise 39", "NONE: others.", EdgesOfBookTest::noSuchEntry);
        e.of("Promise 39", "(Of several by the same hours(): by that HOUR, then MOVEMENTS by numbers.)", EdgesOfBookTest::severalByTheSameHours);
        e.of("Promise 41", "The latest DEED is undone: how many can be undone still.", EdgesOfBookTest::undo);
        e.of("Promise 41", "The latest DEED is undone:", EdgesOfBookTest::eachDeedUndone);
        e.of("Promise 41", "-2: none can.", EdgesOfBookTest::noneCanBeUndone);
        e.of("Promise 42", "All (the NET aside) is kept, in place of what was: HOUR.", EdgesOfBookTest::keeps);
        e.of("Promise 43", "All that was kept is so again, as a DEED: HOUR.", EdgesOfBookTest::back);
        e.of("Promise 43", "All that was kept is so again,", EdgesOfBookTest::backOfWhatIsUndone);
        e.of("Promise 43", "-2: nothing is kept (since net()).", EdgesOfBookTest::nothingIsKept);
        e.of("Promise 44", "What 0: HOUR, 1: OFFICES, 2: ROADS, 3: GOODS, 4: TRADERS, 5: MOVEMENTS, 6: DEEDS that can be undone, "
            + "7: entries of THE BOOK, 8: numbers of the ROW, 9: signs of THE TEXT, 10: seals that are broken.", EdgesOfBookTest::count);
        e.of("Promise 44", "NONE for another what.", EdgesOfBookTest::anotherWhat);
        e.of("Promise 45", "Number i of the ROW.", EdgesOfBookTest::row);
        e.of("Promise 45", "NoSuchElementException: none such.", EdgesOfBookTest::noSuchNumber);
        e.close();
    }

    // ---- the book

    /** Fifteen movements of the line, each with its start in the book. */
    private static Desk fifteen(Check check) {
        Desk d = Desk.at(check, LINE, 999, 0);
        for (int m = 0; m < 15; m++) {
            d.starts("0-1", 0, 0, 1);
        }
        return d;
    }

    private static void latestThirty(Check check) {
        Desk d = Desk.at(check, LINE, 999, 0);
        d.due("book(0, 0) of none", d.x.book(0, 0), -1);
        d = fifteen(check);
        for (int m = 0; m < 14; m++) {
            d.x.breaks(m);
        }
        d.due("count(7)", d.x.count(7), 29);
        d.due("book(29, 0) of 29", d.x.book(29, 0), -1);
        check.due("book(28) of 29", d.book(28), "0 0 0");
        d.x.breaks(14);
        d.due("count(7)", d.x.count(7), 30);
        check.due("book(29) of 30", d.book(29), "0 0 0");
        check.due("book(0) of 30", d.book(0), "2 14 0");
        d.stamps(3, 1);
        d.due("count(7) of 31", d.x.count(7), 30);
        check.due("book(0) of 31", d.book(0), "1 3 0");
        check.due("book(1) of 31", d.book(1), "2 14 0");
        check.due("book(29) of 31", d.book(29), "0 1 0");
        d.due("book(30, 0) of 31", d.x.book(30, 0), -1);
    }

    private static void undoneEntries(Check check) {
        Desk d = fifteen(check);
        for (int m = 0; m < 15; m++) {
            d.x.breaks(m);
        }
        d.x.hours(999);
        d.due("count(7)", d.x.count(7), 30);
        check.due("book(0)", d.book(0), "5 14 98");
        check.due("book(29)", d.book(29), "4 0 27");
        d.due("undo()", d.x.undo(), 7);
        d.due("count(7): the oldest are there again", d.x.count(7), 30);
        check.due("book(0)", d.book(0), "2 14 0");
        check.due("book(29)", d.book(29), "0 0 0");
        d.due("undo()", d.x.undo(), 6);
        d.due("count(7)", d.x.count(7), 29);
        check.due("book(0)", d.book(0), "2 13 0");
        d.stamps(9, 1);
        check.due("book(0) in place of the one undone", d.book(0), "1 9 0");
        check.due("book(1)", d.book(1), "2 13 0");
    }

    private static void kinds(Check check) {
        Desk d = Desk.at(check, LINE, 999, 0);
        d.starts("0-1-2", 0, 0, 5);
        d.starts("0-1", 0, 0, 5);
        d.x.breaks(0);
        d.stamps(0, 1);
        d.stamps(1, 1);
        d.x.controls(1, 5);
        d.x.hours(28 + 72);
        d.x.pays(0);
        d.dueBook("6 0 100", "5 0 100", "4 0 29", "3 1 0", "1 1 0", "1 0 0", "2 0 0", "0 1 0", "0 0 0");
        d.due("count(7): an entry for each, none for a trader", d.x.count(7), 9);
        d.starts("0-1", 0, 0, 5);
        d.stamps(2, 1);
        d.x.controls(2, 4);
        d.dueBook("5 2 100", "1 2 100", "0 2 100");
        d.starts("0-1", 0, 0, 5);
        d.x.hours(27);
        d.x.proves(3);
        d.dueBook("3 3 127", "4 3 127", "0 3 100");
    }

    private static void hoursOfEntries(Check check) {
        Desk d = Desk.at(check, LINE, 999, 0);
        d.x.hours(5);
        d.starts("0-1", 0, 0, 5);
        d.due("its term", d.x.movement(0, 6), 31);
        d.x.hours(999);
        d.dueBook("5 0 103", "4 0 32", "0 0 5");
        d.x.undo();
        d.x.hours(27);
        d.dueBook("4 0 32", "0 0 5");
        d.x.hours(71);
        d.dueBook("5 0 103", "4 0 32", "0 0 5");
    }

    private static void noSuchEntry(Check check) {
        Desk d = fifteen(check);
        for (int i : new int[] {Integer.MIN_VALUE, -1, 15, 29, 30, Integer.MAX_VALUE}) {
            for (int what = 0; what < 3; what++) {
                d.due("book(" + i + ", " + what + ") of 15", d.x.book(i, what), -1);
            }
        }
        for (int what : new int[] {Integer.MIN_VALUE, -1, 3, Integer.MAX_VALUE}) {
            d.due("book(0, " + what + ")", d.x.book(0, what), -1);
        }
        d.due("book(14, 1)", d.x.book(14, 1), 0);
        d.due("book(0, 1)", d.x.book(0, 1), 14);
    }

    private static void severalByTheSameHours(Check check) {
        Desk d = Desk.at(check, "00000000|0-1:36,1-2:1,2-3:1,3-4:99|1", 999, 0);
        d.starts("3-4", 0, 0, 1);
        d.starts("0-1", 0, 0, 1);
        d.starts("1-2", 0, 0, 1);
        d.starts("2-3", 0, 0, 1);
        d.x.hours(70);
        d.starts("2-1", 0, 0, 1);
        // Terms 222, 96, 26, 26, 96: movements 2 and 3 are owed at 98, movements 1 and 4 are sought at 97.
        d.due("hours(28)", d.x.hours(28), 4);
        d.dueBook("5 3 98", "5 2 98", "4 4 97", "4 1 97", "0 4 70", "4 3 27", "4 2 27");
        d.x.undo();
        d.x.undo();
        d.x.undo();
        d.due("hours(98)", d.x.hours(98), 3);
        d.dueBook("5 3 98", "5 2 98", "4 1 97", "4 3 27", "4 2 27", "0 3 0");
    }

    // ---- undone, kept

    private static void undo(Check check) {
        Desk d = Desk.at(check, LINE, 999, 0);
        d.due("undo() of one", d.x.undo(), 0);
        d.due("count(4)", d.x.count(4), 0);
        for (int i = 0; i < 8; i++) {
            d.x.hours(1);
        }
        d.due("undo() of eight", d.x.undo(), 7);
        d.due("count(6)", d.x.count(6), 7);
        d.x.hours(5);
        d.due("undo() of the one behind it", d.x.undo(), 7);
        d.due("count(0)", d.x.count(0), 7);
        d.due("undo()", d.x.undo(), 6);
        d.due("count(0)", d.x.count(0), 6);
    }

    private static void undone(Check check, String call, Twins.Call c) {
        Desk d = Twins.busy(check);
        check.due(call + " is not refused", c.of(d.x) >= 0, true);
        d.due("undo() of " + call, d.x.undo(), 7);
        check.due(call + ", undone", Twins.ledger(d), Twins.ledger(Twins.busy(check)));
    }

    private static void eachDeedUndone(Check check) {
        undone(check, "trader(1, 1)", x -> x.trader(1, 1));
        undone(check, "sums(0, 999999, 3)", x -> x.sums(0, 999999, 3));
        undone(check, "stamps(6, 1)", x -> x.stamps(Twins.ROLLING, 1));
        undone(check, "stamps(5, 2)", x -> x.stamps(Twins.SOUGHT, 2));
        undone(check, "breaks(6)", x -> x.breaks(Twins.ROLLING));
        undone(check, "controls(4, 3)", x -> x.controls(Twins.ARRIVED, 3));
        undone(check, "controls(4, 0)", x -> x.controls(Twins.ARRIVED, 0));
        undone(check, "proves(5)", x -> x.proves(Twins.SOUGHT));
        undone(check, "pays(2)", x -> x.pays(Twins.OWED));
        undone(check, "hours(1)", x -> x.hours(1));
        undone(check, "hours(999)", x -> x.hours(999));
        undone(check, "back()", x -> x.back());
        Desk d = Twins.busy(check);
        d.dueStarts("0-1", 0, 0, 1, Twins.MOVEMENTS);
        d.due("undo() of starts()", d.x.undo(), 7);
        check.due("starts(), undone", Twins.ledger(d), Twins.ledger(Twins.busy(check)));
    }

    private static void noneCanBeUndone(Check check) {
        TransitSeals x = new TransitSeals();
        check.due("undo() of a new object", x.undo(), -2);
        x.hours(1);
        check.due("undo()", x.undo(), 0);
        check.due("undo() of none", x.undo(), -2);
        check.due("undo() of none again", x.undo(), -2);
        check.due("count(6)", x.count(6), 0);
        Desk d = Twins.busy(check);
        d.x.net();
        d.due("undo() behind net()", d.x.undo(), -2);
    }

    private static void keeps(Check check) {
        Desk d = new Desk(check);
        d.due("keeps() at first", d.x.keeps(), 0);
        d.x.hours(3);
        d.due("keeps() in place of it", d.x.keeps(), 3);
        d.due("count(6): keeps() is no deed", d.x.count(6), 1);
        d.x.hours(4);
        d.due("back()", d.x.back(), 3);
        d.x.undo();
        d.x.undo();
        d.x.undo();
        d.due("count(0): all is undone", d.x.count(0), 0);
        d.due("back(): it is kept still", d.x.back(), 3);
    }

    private static void back(Check check) {
        Desk d = Twins.busy(check);
        d.due("keeps()", d.x.keeps(), 60);
        d.x.trader(1, 1);
        d.x.sums(0, 999999, 3);
        d.x.proves(Twins.SOUGHT);
        d.x.controls(Twins.ARRIVED, 0);
        d.x.stamps(Twins.ROLLING, 1);
        d.x.breaks(Twins.ROLLING);
        d.x.pays(Twins.OWED);
        d.x.hours(999);
        d.due("back()", d.x.back(), 60);
        check.due("all that was kept", Twins.ledger(d), Twins.ledger(Twins.busy(check)));
        d.due("count(6): back() is a deed, of which eight are kept", d.x.count(6), 8);
        d.due("undo() of back()", d.x.undo(), 7);
        d.due("count(0)", d.x.count(0), 1059);
        d.due("count(4)", d.x.count(4), 4);
        d.due("states(5)", d.x.states(5), 1 << Twins.PAID | 1 << Twins.OWED);
        d.due("back() again", d.x.back(), 60);
        d.due("back() of what is so", d.x.back(), 60);
        d.due("count(6)", d.x.count(6), 8);
    }

    /** Another movement, and other entries, stand where those were that are kept. */
    private static void backOfWhatIsUndone(Check check) {
        Desk d = Twins.busy(check);
        d.x.keeps();
        d.x.undo();
        d.x.hours(1);
        d.dueStarts("4-3", 1, 0, 9, Twins.ROLLING);
        d.x.breaks(Twins.ROLLING);
        d.stamps(Twins.ROLLING, 3);
        d.x.controls(Twins.ROLLING, 1);
        d.due("back()", d.x.back(), 60);
        check.due("all that was kept", Twins.ledger(d), Twins.ledger(Twins.busy(check)));
        d.x.breaks(Twins.ROLLING);
        d.x.keeps();
        d.x.undo();
        d.x.breaks(Twins.SOUGHT);
        check.due("book(0)", d.book(0), "2 5 60");
        d.x.back();
        check.due("book(0)", d.book(0), "2 6 60");
        d.x.undo();
        check.due("book(0)", d.book(0), "2 5 60");
    }

    private static void nothingIsKept(Check check) {
        Desk d = new Desk(check);
        d.due("back() of a new object", d.x.back(), -2);
        d.due("count(6)", d.x.count(6), 0);
        d.x.keeps();
        d.due("back()", d.x.back(), 0);
        d.due("count(6)", d.x.count(6), 1);
        d.dueNet("0", -22);
        d.due("back() behind a refused net()", d.x.back(), 0);
        d.dueNet("00|", 2);
        d.due("back() behind net()", d.x.back(), -2);
        d.due("count(6)", d.x.count(6), 0);
    }

    // ---- counted

    private static void count(Check check) {
        Desk d = new Desk(check);
        for (int what = 0; what < 11; what++) {
            d.due("count(" + what + ") of a new object", d.x.count(what), what == 1 ? 2 : 0);
        }
        d = Twins.busy(check);
        long[] counts = {60, 5, 6, 2, 3, 7, 8, 18, 4, 8, 1};
        for (int what = 0; what < 11; what++) {
            d.due("count(" + what + ") of a busy desk", d.x.count(what), counts[what]);
        }
        d = Desk.at(check, LINE + ",2,3,4,5,6", 20, 0, 0, 0, 0, 0, 0, 0, 0, 0, 0, 0);
        for (int m = 0; m < 20; m++) {
            d.starts("0-1", 0, 0, 1);
            d.x.breaks(m);
        }
        d.x.way(0, 11);
        for (int i = 0; i < 50; i++) {
            d.x.sign(0);
        }
        long[] most = {0, 12, 11, 6, 6, 20, 8, 30, 12, 200, 20};
        for (int what = 0; what < 11; what++) {
            d.due("count(" + what + ") of a full desk", d.x.count(what), most[what]);
        }
    }

    private static void anotherWhat(Check check) {
        TransitSeals x = new TransitSeals();
        for (int what : new int[] {Integer.MIN_VALUE, -1, 11, Integer.MAX_VALUE}) {
            check.due("count(" + what + ")", x.count(what), -1);
        }
    }

    private static void row(Check check) {
        Desk d = Desk.at(check, LINE, 999999, 3);
        d.x.way(11, 0);
        for (int i = 0; i < 12; i++) {
            d.due("row(" + i + ")", d.x.row(i), 11 - i);
        }
        d.x.inUse(0);
        d.due("row(0)", d.x.row(0), 999999);
        d.due("row(3)", d.x.row(3), 0);
        d.starts("0-1", 0, 0, 1);
        d.x.hours(30);
        d.x.left(0);
        d.due("row(0), below 0", d.x.row(0), -4);
        d.due("row(1)", d.x.row(1), 1);
    }

    private static void noSuchNumber(Check check) {
        Desk d = Desk.at(check, LINE, 99, 0);
        check.due("row(0) of none", d.hasRow(0), false);
        d.x.way(0, 11);
        for (int i : new int[] {Integer.MIN_VALUE, -1, 12, Integer.MAX_VALUE}) {
            check.due("row(" + i + ") of twelve", d.hasRow(i), false);
        }
        check.due("row(11) of twelve", d.hasRow(11), true);
        d.x.owes(0);
        check.due("row(0) of one", d.hasRow(0), true);
        check.due("row(1) of one", d.hasRow(1), false);
        d.x.inUse(0);
        check.due("row(3) of four", d.hasRow(3), true);
        check.due("row(4) of four", d.hasRow(4), false);
    }
}
