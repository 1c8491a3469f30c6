import java.io.IOException;

/** Each sentence of the document's first term: which numbers may be where. */
final class EdgesOfTermsTest {
    /** Offices 0 to 11 in a row, each road of one hour; one kind of goods, of duty 1. */
    static final String LINE =
        "000000000000|0-1:1,1-2:1,2-3:1,3-4:1,4-5:1,5-6:1,6-7:1,7-8:1,8-9:1,9-10:1,10-11:1|1";

    private EdgesOfTermsTest() {
    }

    public static void main(String[] args) throws IOException {
        Edges e = new Edges("EdgesOfTermsTest", "Terms 1");
        String terms = "Terms 1";
        e.of(terms, "OFFICES 0 .. n - 1 (n 2 .. 12), each of a COUNTRY 0 .. 5.", EdgesOfTermsTest::offices);
        e.of(terms, "ROADS: between two OFFICES, HOURS 1 .. 99, both ways.", EdgesOfTermsTest::roads);
        e.of(terms, "GOODS 0 .. 5: DUTY 1 .. 999 of a UNIT.", EdgesOfTermsTest::goods);
        e.of(terms, "TRADERS 0, 1 .. (at most 6): SUM 0 .. 999999, LEVEL 0 FULL, 1 HALF, 2 TENTH, 3 FREE.",
            EdgesOfTermsTest::traders);
        e.of(terms, "HOUR 0 .. 99999 (0 at first).", EdgesOfTermsTest::hour);
        e.of(terms, "MOVEMENTS 0, 1 .. (at most 20):", EdgesOfTermsTest::movements);
        e.of(terms, "a TRADER, GOODS, UNITS 1 .. 999,", EdgesOfTermsTest::units);
        e.of(terms, "a ROUTE: 2 to 8 unlike OFFICES, each with a ROAD to the next.", EdgesOfTermsTest::route);
        e.of(terms, "DUTY: UNITS times DUTY of its GOODS.", EdgesOfTermsTest::duty);
        e.of(terms, "SHARE: what of that the LEVEL of its TRADER asked for when it started: all, half, a tenth (rounded up), 0.",
            EdgesOfTermsTest::share);
        e.of(terms, "IN USE of a TRADER: SHARES of its MOVEMENTS that are not CLOSED, not PAID.", EdgesOfTermsTest::inUse);
        e.of(terms, "SPAN of a ROUTE: HOURS of its ROADS together.", EdgesOfTermsTest::span);
        e.of(terms, "TERM: HOUR when it started, and 2 times SPAN, and 24.", EdgesOfTermsTest::term);
        e.of(terms, "STATE: 0 ROLLING, 1 ARRIVED, 2 CLOSED, 3 SOUGHT, 4 OWED, 5 PAID.", EdgesOfTermsTest::state);
        e.of(terms, "STAMPS: of the OFFICES of its ROUTE from the first on, each at an HOUR; the first one when it starts.",
            EdgesOfTermsTest::stamps);
        e.of(terms, "SEAL: whole, or broken.", EdgesOfTermsTest::seal);
        e.of(terms, "SEEN: the last OFFICE with a STAMP.", EdgesOfTermsTest::seen);
        e.of(terms, "DEBT: of one that is OWED, PAID (0 else);", EdgesOfTermsTest::debt);
        e.of(terms, "it is due in the COUNTRY of SEEN.", EdgesOfTermsTest::debtIsDueWhereItWasSeen);
        e.of(terms, "As HOURS go by, one that is ROLLING becomes SOUGHT, as soon as HOUR is beyond TERM.", EdgesOfTermsTest::sought);
        e.of(terms, "STEP of one that is SOUGHT: 0 .. 2: how often 24 whole HOURS have gone by since TERM;", EdgesOfTermsTest::step);
        e.of(terms, "with the third time it is OWED: DEBT is its DUTY.", EdgesOfTermsTest::theThirdTime);
        e.of(terms, "ASKED of one that is SOUGHT: at STEP 0 nobody, at STEP 1 SEEN, at STEP 2 all OFFICES of its ROUTE from SEEN on.",
            EdgesOfTermsTest::asked);
        e.close();
    }

    private static void offices(Check check) {
        Desk d = new Desk(check);
        d.dueNet("0|", -22);
        d.dueNet("00|", 2);
        d.due("office(0, 0) of 2", d.x.office(0, 0), 0);
        d.due("office(1, 0) of 2", d.x.office(1, 0), 0);
        d.due("office(2, 0) of 2", d.x.office(2, 0), -1);
        d.dueNet("0123450123450|", -33);
        d.dueNet("012345012345|", 12);
        d.due("office(11, 0) of 12", d.x.office(11, 0), 5);
        d.due("office(12, 0) of 12", d.x.office(12, 0), -1);
        d.due("office(-1, 0)", d.x.office(-1, 0), -1);
        d.dueNet("06|", -22);
        d.dueNet("05|", 2);
        d.due("office(1, 0)", d.x.office(1, 0), 5);
    }

    private static void roads(Check check) {
        Desk d = new Desk(check);
        d.dueNet("00|0-1:0", -28);
        d.dueNet("00|0-1:100", -30);
        d.dueNet("00|0-1:1", 2);
        d.due("road(0, 1)", d.x.road(0, 1), 1);
        d.due("road(1, 0)", d.x.road(1, 0), 1);
        d.dueNet("00|1-0:99", 2);
        d.due("road(0, 1)", d.x.road(0, 1), 99);
        d.due("road(1, 0)", d.x.road(1, 0), 99);
        d.due("way(1, 0)", d.x.way(1, 0), 99, "1 0");
    }

    private static void goods(Check check) {
        Desk d = new Desk(check);
        d.dueNet("00|0-1:1|0", -30);
        d.dueNet("00|0-1:1|1000", -33);
        d.dueNet("00|0-1:1|1,2,3,4,5,999", 2);
        d.due("count(3)", d.x.count(3), 6);
        d.x.trader(999999, 0);
        d.due("can(0, -1)", d.x.can(0, -1), -1);
        d.due("can(0, 0)", d.x.can(0, 0), 999, "999");
        d.due("can(0, 5)", d.x.can(0, 5), 999, "998001");
        d.due("can(0, 6)", d.x.can(0, 6), -1);
        d.dueStarts("0-1", 0, -1, 1, -1);
        d.dueStarts("0-1", 0, 6, 1, -1);
        d.dueStarts("0-1", 0, 5, 1, 0);
        d.due("its duty", d.x.movement(0, 4), 999);
        d.dueStarts("0-1", 0, 0, 1, 1);
        d.due("its duty", d.x.movement(1, 4), 1);
    }

    private static void traders(Check check) {
        Desk d = Desk.at(check, Desk.NET);
        d.due("inUse(0) of none", d.x.inUse(0), -1);
        d.due("trader(-1, 0)", d.x.trader(-1, 0), -1);
        d.due("trader(1000000, 0)", d.x.trader(1000000, 0), -1);
        d.due("trader(0, -1)", d.x.trader(0, -1), -1);
        d.due("trader(0, 4)", d.x.trader(0, 4), -1);
        d.due("trader(0, 0)", d.x.trader(0, 0), 0);
        d.due("trader(999999, 1)", d.x.trader(999999, 1), 1);
        d.due("trader(1, 2)", d.x.trader(1, 2), 2);
        d.due("trader(999998, 3)", d.x.trader(999998, 3), 3);
        d.due("trader(5, 0)", d.x.trader(5, 0), 4);
        d.due("trader(6, 0)", d.x.trader(6, 0), 5);
        d.due("trader(7, 0)", d.x.trader(7, 0), -2);
        d.due("inUse(0)", d.x.inUse(0), 0, "0 0 0 0");
        d.due("inUse(1)", d.x.inUse(1), 0, "999999 1 999999 0");
        d.due("inUse(3)", d.x.inUse(3), 0, "999998 3 999998 0");
        d.due("inUse(5)", d.x.inUse(5), 0, "6 0 6 0");
        d.due("inUse(6)", d.x.inUse(6), -1);
    }

    private static void hour(Check check) {
        Desk d = new Desk(check);
        d.due("count(0) at first", d.x.count(0), 0);
        for (int i = 0; i < 100; i++) {
            d.x.hours(999);
        }
        d.due("hours(99)", d.x.hours(99), 0);
        d.due("count(0)", d.x.count(0), 99999);
        d.due("hours(1)", d.x.hours(1), -1);
        d.due("count(0)", d.x.count(0), 99999);
        d.dueNet("00|", 2);
        d.due("count(0) at first", d.x.count(0), 0);
    }

    private static void movements(Check check) {
        Desk d = Desk.at(check, LINE, 20, 0);
        d.due("movement(0, 2) of none", d.x.movement(0, 2), -1);
        for (int m = 0; m < 20; m++) {
            d.dueStarts("0-1", 0, 0, 1, m);
        }
        d.dueStarts("0-1", 0, 0, 1, -2);
        d.due("count(5)", d.x.count(5), 20);
        d.due("movement(19, 2)", d.x.movement(19, 2), 1);
        d.due("movement(20, 2)", d.x.movement(20, 2), -1);
        d.due("movement(-1, 2)", d.x.movement(-1, 2), -1);
        d.due("states(0)", d.x.states(0), 1048575, "20 20");
    }

    private static void units(Check check) {
        Desk d = Desk.at(check, LINE, 5000, 0);
        d.dueStarts("0-1", 0, 0, -1, -1);
        d.dueStarts("0-1", 0, 0, 0, -1);
        d.dueStarts("0-1", 0, 0, 1000, -1);
        d.dueStarts("0-1", 0, 0, 1, 0);
        d.dueStarts("0-1", 0, 0, 999, 1);
        d.due("movement(0, 2)", d.x.movement(0, 2), 1);
        d.due("movement(1, 2)", d.x.movement(1, 2), 999);
    }

    private static void route(Check check) {
        Desk d = Desk.at(check, LINE, 5000, 0);
        d.dueStarts("0", 0, 0, 1, -22);
        d.dueStarts("0-0", 0, 0, 1, -23);
        d.dueStarts("0-1-0", 0, 0, 1, -25);
        d.dueStarts("0-2", 0, 0, 1, -23);
        d.dueStarts("0-1-2-3-4-5-6-7-8", 0, 0, 1, -36);
        d.dueStarts("0-1", 0, 0, 1, 0);
        d.due("movement(0, 12)", d.x.movement(0, 12), 2);
        d.dueStarts("11-10-9-8-7-6-5-4", 0, 0, 1, 1);
        d.due("movement(1, 12)", d.x.movement(1, 12), 8);
    }

    private static void duty(Check check) {
        Desk d = Desk.at(check, "00|0-1:1|1,999", 999999, 0);
        d.dueStarts("0-1", 0, 0, 1, 0);
        d.due("the least duty", d.x.movement(0, 4), 1);
        d.dueStarts("0-1", 0, 1, 999, 1);
        d.due("the greatest duty", d.x.movement(1, 4), 998001);
    }

    private static void share(Check check) {
        Desk d = Desk.at(check, LINE, 9999, 0, 9999, 1, 9999, 2, 9999, 3);
        int[] units = {1, 2, 3, 10, 11};
        long[][] shares = {{1, 2, 3, 10, 11}, {1, 1, 2, 5, 6}, {1, 1, 1, 1, 2}, {0, 0, 0, 0, 0}};
        for (int level = 0; level < 4; level++) {
            for (int i = 0; i < units.length; i++) {
                int m = d.starts("0-1", level, 0, units[i]);
                d.due("the share of a duty of " + units[i] + " at level " + level, d.x.movement(m, 5), shares[level][i]);
            }
        }
        d.x.sums(1, 9999, 3);
        d.due("the share stays as it was asked for", d.x.movement(9, 5), 6);
        d.due("inUse(1)", d.x.inUse(1), 15, "9999 3 9984 992");
    }

    private static void inUse(Check check) {
        Desk d = Desk.at(check, Desk.NET, 9999, 0);
        d.dueStarts("0-1", 0, 0, 1, 0);
        d.due("inUse(0) of one rolling", d.x.inUse(0), 10, "9999 0 9989 1");
        d.x.hours(35);
        d.due("its state", d.x.movement(0, 3), 3);
        d.due("inUse(0) of one sought", d.x.inUse(0), 10, "9999 0 9989 1");
        d.stamps(0, 1);
        d.due("inUse(0) of one arrived", d.x.inUse(0), 10, "9999 0 9989 1");
        d.x.controls(0, 0);
        d.due("inUse(0) of one owed", d.x.inUse(0), 10, "9999 0 9989 1");
        d.x.pays(0);
        d.due("inUse(0) of one paid", d.x.inUse(0), 0, "9999 0 9999 0");
        d.dueStarts("0-1", 0, 0, 2, 1);
        d.stamps(1, 1);
        d.due("inUse(0)", d.x.inUse(0), 20, "9999 0 9979 2");
        d.x.controls(1, 2);
        d.due("inUse(0) of one closed", d.x.inUse(0), 0, "9999 0 9999 0");
    }

    private static void span(Check check) {
        Desk d = Desk.at(check, "00000000|0-1:99,1-2:99,2-3:99,3-4:99,4-5:99,5-6:99,6-7:99,0-7:1|1", 9, 0);
        d.dueDetour("0-7", 0);
        d.due("row(0) of the least span", d.x.row(0), 1);
        d.dueDetour("0-1-2-3-4-5-6-7", 692);
        d.due("row(0) of the greatest span", d.x.row(0), 693);
    }

    private static void term(Check check) {
        Desk d = Desk.at(check, "00000000|0-1:99,1-2:99,2-3:99,3-4:99,4-5:99,5-6:99,6-7:99,0-7:1|1", 9, 0);
        d.dueStarts("0-7", 0, 0, 1, 0);
        d.due("the least term", d.x.movement(0, 6), 26);
        for (int i = 0; i < 100; i++) {
            d.x.hours(999);
        }
        d.x.hours(99);
        d.dueStarts("0-1-2-3-4-5-6-7", 0, 0, 1, 1);
        d.due("the greatest term", d.x.movement(1, 6), 99999 + 2 * 693 + 24);
    }

    private static void state(Check check) {
        Desk d = Twins.busy(check);
        int[] movements = {Twins.ROLLING, Twins.ARRIVED, Twins.CLOSED, Twins.SOUGHT, Twins.OWED, Twins.PAID};
        for (int state = 0; state < movements.length; state++) {
            d.due("movement(" + movements[state] + ", 3)", d.x.movement(movements[state], 3), state);
        }
        d.due("states(5)", d.x.states(5), 1 << Twins.PAID);
        d.due("states(6)", d.x.states(6), -1);
        d.due("states(-1)", d.x.states(-1), -1);
    }

    private static void stamps(Check check) {
        Desk d = Desk.at(check, Desk.NET, 9999, 0);
        d.x.hours(7);
        d.dueStarts("2-1-0", 0, 0, 1, 0);
        d.due("stamps at its start", d.x.movement(0, 7), 1);
        d.due("stop(0, 0)", d.x.stop(0, 0), 2, "7");
        d.due("stop(0, 1)", d.x.stop(0, 1), 1, "-1");
        d.due("stamps(0, 2): it has that one", d.x.stamps(0, 2), -3);
        d.x.hours(1);
        d.due("stamps(0, 1)", d.x.stamps(0, 1), 1);
        d.x.hours(1);
        d.due("stamps(0, 0)", d.x.stamps(0, 0), 0);
        d.due("stop(0, 0)", d.x.stop(0, 0), 2, "7");
        d.due("stop(0, 1)", d.x.stop(0, 1), 1, "8");
        d.due("stop(0, 2)", d.x.stop(0, 2), 0, "9");
        d.due("stamps", d.x.movement(0, 7), 3);
    }

    private static void seal(Check check) {
        Desk d = Desk.at(check, Desk.NET, 9999, 0);
        d.starts("0-1", 0, 0, 1);
        d.due("movement(0, 9) of one whole", d.x.movement(0, 9), 0);
        d.x.breaks(0);
        d.due("movement(0, 9) of one broken", d.x.movement(0, 9), 1);
    }

    private static void seen(Check check) {
        Desk d = Desk.at(check, Desk.NET, 9999, 0);
        d.starts("2-1-0", 0, 0, 1);
        d.due("movement(0, 8) at its start", d.x.movement(0, 8), 2);
        d.stamps(0, 1);
        d.due("movement(0, 8)", d.x.movement(0, 8), 1);
        d.stamps(0, 0);
        d.due("movement(0, 8) at its end", d.x.movement(0, 8), 0);
    }

    private static void debt(Check check) {
        Desk d = Twins.busy(check);
        long[] debts = {0, 100, 40, 0, 0, 0, 0};
        for (int m = 0; m < debts.length; m++) {
            d.due("movement(" + m + ", 10)", d.x.movement(m, 10), debts[m]);
        }
    }

    private static void debtIsDueWhereItWasSeen(Check check) {
        Desk d = Desk.at(check, "015|0-1:1,1-2:1|10", 9999, 0);
        d.starts("0-1-2", 0, 0, 1);
        d.starts("0-1-2", 0, 0, 2);
        d.starts("0-1-2", 0, 0, 4);
        d.stamps(1, 1);
        d.stamps(2, 1, 2);
        d.x.controls(2, 0);
        // The other two are owed at hour 100.
        d.x.hours(100);
        d.due("owed(0)", d.x.owed(0), 10, "0 1");
        d.due("owed(1)", d.x.owed(1), 20, "0 1");
        d.due("owed(5)", d.x.owed(5), 40, "0 1");
        d.due("owed(2)", d.x.owed(2), 0, "0 0");
    }

    private static void sought(Check check) {
        Desk d = Desk.at(check, Desk.NET, 9999, 0);
        d.starts("0-1", 0, 0, 1);
        d.starts("0-1", 0, 0, 1);
        d.stamps(1, 1);
        d.due("its term", d.x.movement(0, 6), 34);
        d.due("hours(34)", d.x.hours(34), 0);
        d.due("the state at its term", d.x.movement(0, 3), 0);
        d.due("hours(1)", d.x.hours(1), 1);
        d.due("the state an hour later", d.x.movement(0, 3), 3);
        d.due("the state of one arrived", d.x.movement(1, 3), 1);
    }

    private static void step(Check check) {
        Desk d = Desk.at(check, Desk.NET, 9999, 0);
        d.starts("0-1", 0, 0, 1);
        d.due("movement(0, 11) of one rolling", d.x.movement(0, 11), 0);
        d.x.hours(35);
        // So many hours behind its term 34.
        int[] behind = {1, 23, 24, 47, 48, 71};
        long[] steps = {0, 0, 1, 1, 2, 2};
        for (int i = 0; i < behind.length; i++) {
            d.x.hours(i == 0 ? 0 : behind[i] - behind[i - 1]);
            d.due("the step " + behind[i] + " hours behind its term", d.x.movement(0, 11), steps[i]);
            d.due("the state " + behind[i] + " hours behind its term", d.x.movement(0, 3), 3);
        }
        d.x.hours(1);
        d.due("the step of one owed", d.x.movement(0, 11), 0);
    }

    private static void theThirdTime(Check check) {
        Desk d = Desk.at(check, Desk.NET, 9999, 2);
        d.starts("0-1", 0, 0, 5);
        d.x.breaks(0);
        d.x.hours(34 + 71);
        d.due("the state 71 hours behind its term", d.x.movement(0, 3), 3);
        d.due("hours(1)", d.x.hours(1), 1);
        d.due("the state 72 hours behind its term", d.x.movement(0, 3), 4);
        d.due("the debt: its duty, no tenth of it, and not twice, as none controlled it", d.x.movement(0, 10), 50);
    }

    private static void asked(Check check) {
        Desk d = Desk.at(check, Desk.NET, 9999, 0);
        d.starts("0-1-2-3", 0, 0, 5);
        d.stamps(0, 1);
        d.x.hours(56 + 23);
        d.due("asked(0) at step 0", d.x.asked(0), 0, "0 1");
        d.x.hours(1);
        d.due("asked(0) at step 1", d.x.asked(0), 2, "1 24");
        d.x.hours(23);
        d.due("asked(0) at step 1", d.x.asked(0), 2, "1 1");
        d.x.hours(1);
        d.due("asked(0) at step 2", d.x.asked(0), 14, "2 24");
        d.x.hours(24);
        d.due("asked(0) of one owed", d.x.asked(0), -2, "2 24");
    }
}
