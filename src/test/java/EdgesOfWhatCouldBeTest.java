import java.io.IOException;

/** Each sentence of promises 32 to 38: what could be. */
final class EdgesOfWhatCouldBeTest {
    private static final String LINE = EdgesOfTermsTest.LINE;
    /** Term of 0-1-2-3: 144; seen at office 1 at hour 94, it is just in time. */
    private static final String SLOW = "0000|0-1:10,1-2:20,2-3:30|1";

    private EdgesOfWhatCouldBeTest() {
    }

    public static void main(String[] args) throws IOException {
        Edges e = new Edges("EdgesOfWhatCouldBeTest", "Promise 32", "Promise 33", "Promise 34", "Promise 35", "Promise 36",
            "Promise 37", "Promise 38");
        e.of("Promise 32", "The most UNITS of GOODS that a TRADER could start now (0 .. 999), MOVEMENTS enough;", EdgesOfWhatCouldBeTest::can);
        e.of("Promise 32", "the ROW: their SHARE.", EdgesOfWhatCouldBeTest::shareOfThem);
        sharesThatFit(e);
        e.of("Promise 35", "THE TEXT tells loads: GOODS : UNITS (1 .. 999), with , between, 8 at most (an empty one: none):",
            EdgesOfWhatCouldBeTest::loads);
        e.of("Promise 35", "of all sets of them that could start now together by their SHARES (MOVEMENTS enough),",
            EdgesOfWhatCouldBeTest::setsThatCouldStart);
        e.of("Promise 35", "that with most UNITS, of equal ones with the least SHARES, then the least bits: it, as bits;",
            EdgesOfWhatCouldBeTest::theBestSet);
        e.of("Promise 35", "the ROW: UNITS, SHARES together.", EdgesOfWhatCouldBeTest::unitsAndSharesTogether);
        e.of("Promise 35", "-21 - p.", EdgesOfWhatCouldBeTest::wrongLoads);
        e.of("Promise 36", "THE TEXT is a ROUTE, as starts() reads it: HOURS it is longer than the shortest way from its first to its last OFFICE;",
            EdgesOfWhatCouldBeTest::detour);
        e.of("Promise 36", "the ROW: SPAN, TERM if it started now.", EdgesOfWhatCouldBeTest::spanAndTerm);
        e.of("Promise 36", "-21 - p.", EdgesOfWhatCouldBeTest::wrongRoutes);
        e.of("Promise 37", "If a MOVEMENT (ROLLING, ARRIVED, SOUGHT) were lost now: DUTY;", EdgesOfWhatCouldBeTest::risk);
        e.of("Promise 37", "the ROW: what of it is not in its SHARE, the COUNTRY of SEEN.", EdgesOfWhatCouldBeTest::notInItsShare);
        e.of("Promise 37", "-2: it is none of these.", EdgesOfWhatCouldBeTest::riskOfOthers);
        e.of("Promise 38", "The TRADER with the most IN USE, in thousandths of SUM (SUM 0: 0), cut, of equal ones the first;",
            EdgesOfWhatCouldBeTest::tightest);
        e.of("Promise 38", "the ROW: these.", EdgesOfWhatCouldBeTest::thousandths);
        e.of("Promise 38", "-2: there is none.", EdgesOfWhatCouldBeTest::noTrader);
        e.close();
    }

    private static void sharesThatFit(Edges e) {
        e.of("Promise 33", "The fewest MOVEMENTS of a TRADER, not CLOSED, not PAID, that would have to be CLOSED so that a SHARE s "
            + "(0 .. 999999) fits: how many;", EdgesOfWhatCouldBeTest::frees);
        e.of("Promise 33", "the ROW: they, as bits, of as few the least bits.", EdgesOfWhatCouldBeTest::theLeastBits);
        e.of("Promise 33", "0: it does;", EdgesOfWhatCouldBeTest::itFits);
        e.of("Promise 33", "-2: not by all.", EdgesOfWhatCouldBeTest::notByAll);
        e.of("Promise 33", "NONE: another s, too.", EdgesOfWhatCouldBeTest::anotherShareToFree);
        e.of("Promise 34", "The earliest HOUR at which a SHARE s of a TRADER fits, if all of its MOVEMENTS that are ROLLING, not LATE (late()), "
            + "are CLOSED at the end of these HOURS", EdgesOfWhatCouldBeTest::when);
        e.of("Promise 34", "(now, if that is past),", EdgesOfWhatCouldBeTest::whenThatIsPast);
        e.of("Promise 34", "those that are ARRIVED now, nothing else happens:", EdgesOfWhatCouldBeTest::whenOneIsArrived);
        e.of("Promise 34", "that HOUR (now, if it does).", EdgesOfWhatCouldBeTest::whenItFitsNow);
        e.of("Promise 34", "-2: never so.", EdgesOfWhatCouldBeTest::never);
        e.of("Promise 34", "NONE: another s, too.", EdgesOfWhatCouldBeTest::anotherShareToWaitFor);
    }

    // ---- can

    private static void can(Check check) {
        Desk d = Desk.at(check, "00|0-1:1|1,999", 999, 0, 998, 0, 0, 0, 999999, 0, 0, 3, 100, 2);
        d.due("can(0, 0): 999 for 999", d.x.can(0, 0), 999);
        d.due("can(1, 0): 998 for 998", d.x.can(1, 0), 998);
        d.due("can(2, 0): nothing for 0", d.x.can(2, 0), 0);
        d.due("can(3, 0): no more than 999", d.x.can(3, 0), 999);
        d.due("can(3, 1)", d.x.can(3, 1), 999);
        d.due("can(0, 1): one for 999", d.x.can(0, 1), 1);
        d.due("can(1, 1): none for 998", d.x.can(1, 1), 0);
        d.due("can(4, 1): free of a share", d.x.can(4, 1), 999);
        d.due("can(5, 0): a tenth of 999 is 100, rounded up", d.x.can(5, 0), 999);
        d.x.sums(5, 99, 2);
        d.due("can(5, 0)", d.x.can(5, 0), 990);
        d.x.sums(5, 50, 1);
        d.due("can(5, 0): half of 99 is 50, rounded up", d.x.can(5, 0), 100);
        for (int m = 0; m < 20; m++) {
            d.dueStarts("0-1", 0, 0, 1, m);
        }
        d.due("can(1, 0) when there are 20: movements enough", d.x.can(1, 0), 998);
        d.due("can(0, 0)", d.x.can(0, 0), 979);
        d.due("can(6, 0)", d.x.can(6, 0), -1);
        d.due("can(0, 2)", d.x.can(0, 2), -1);
    }

    private static void shareOfThem(Check check) {
        Desk d = Desk.at(check, "00|0-1:1|1,999", 998, 0, 999999, 0, 0, 3, 99, 2, 50, 1);
        d.due("can(0, 0)", d.x.can(0, 0), 998, "998");
        d.due("can(0, 1)", d.x.can(0, 1), 0, "0");
        d.due("can(1, 1)", d.x.can(1, 1), 999, "998001");
        d.due("can(2, 1)", d.x.can(2, 1), 999, "0");
        d.due("can(3, 0)", d.x.can(3, 0), 990, "99");
        d.due("can(3, 1): 99.9, rounded up, is too much", d.x.can(3, 1), 0, "0");
        d.due("can(4, 0)", d.x.can(4, 0), 100, "50");
    }

    // ---- frees, when

    private static void frees(Check check) {
        Desk d = Desk.at(check, "00|0-1:1|1", 20, 0);
        for (int m = 0; m < 20; m++) {
            d.starts("0-1", 0, 0, 1);
        }
        for (int s = 0; s <= 20; s++) {
            d.due("frees(0, " + s + ")", d.x.frees(0, s), s, String.valueOf((1 << s) - 1));
        }
        d.stamps(0, 1);
        d.stamps(1, 1);
        d.stamps(2, 1);
        d.x.controls(0, 1);
        d.x.controls(1, 0);
        d.x.controls(2, 0);
        d.x.pays(2);
        d.due("frees(0, 2): those closed and paid are free", d.x.frees(0, 2), 0, "0");
        d.due("frees(0, 3): one is owed", d.x.frees(0, 3), 1, "2");
        d.due("frees(0, 4): others are rolling", d.x.frees(0, 4), 2, "10");
        d.x.hours(27);
        d.stamps(3, 1);
        d.due("frees(0, 5): one is arrived, others sought", d.x.frees(0, 5), 3, "26");
        d.net("00|0-1:1|999");
        d.x.trader(999999, 0);
        d.starts("0-1", 0, 0, 999);
        d.due("frees(0, 1998): just what is free", d.x.frees(0, 1998), 0, "0");
        d.due("frees(0, 999999)", d.x.frees(0, 999999), 1, "1");
    }

    private static void theLeastBits(Check check) {
        Desk d = Desk.at(check, "00|0-1:1|1", 100, 0);
        for (int units : new int[] {10, 30, 20, 40}) {
            d.starts("0-1", 0, 0, units);
        }
        d.due("frees(0, 10)", d.x.frees(0, 10), 1, "1");
        d.due("frees(0, 11): movement 1 has less bits than 2", d.x.frees(0, 11), 1, "2");
        d.due("frees(0, 31)", d.x.frees(0, 31), 1, "8");
        d.due("frees(0, 41): 1 and 2", d.x.frees(0, 41), 2, "6");
        d.due("frees(0, 50): 1 and 2, not 3 and 0", d.x.frees(0, 50), 2, "6");
        d.due("frees(0, 51): 3 and 2, not 3 and 1, nor three", d.x.frees(0, 51), 2, "10");
        d.due("frees(0, 70)", d.x.frees(0, 70), 2, "10");
        d.due("frees(0, 71)", d.x.frees(0, 71), 3, "11");
        d.due("frees(0, 81)", d.x.frees(0, 81), 3, "14");
        d.due("frees(0, 91)", d.x.frees(0, 91), 4, "15");
        d = Desk.at(check, "00|0-1:1|1", 75, 0);
        for (int units : new int[] {10, 10, 15, 40}) {
            d.starts("0-1", 0, 0, units);
        }
        d.due("frees(0, 55): 3 and 2, not 3, 1 and 0", d.x.frees(0, 55), 2, "12");
    }

    private static void itFits(Check check) {
        Desk d = Desk.at(check, LINE, 100, 0, 0, 3);
        d.due("frees(0, 100): all is free", d.x.frees(0, 100), 0, "0");
        d.due("frees(1, 0)", d.x.frees(1, 0), 0, "0");
        d.starts("0-1", 0, 0, 40);
        d.due("frees(0, 60)", d.x.frees(0, 60), 0, "0");
        d.due("frees(0, 61)", d.x.frees(0, 61), 1, "1");
    }

    private static void notByAll(Check check) {
        Desk d = Desk.at(check, LINE, 100, 0, 0, 3);
        d.starts("0-1", 0, 0, 40);
        d.due("frees(0, 100)", d.x.frees(0, 100), 1, "1");
        d.due("frees(0, 101)", d.x.frees(0, 101), -2, "1");
        d.due("frees(0, 999999)", d.x.frees(0, 999999), -2, "1");
        d.starts("0-1", 1, 0, 999);
        d.due("frees(1, 1): closing one without a share", d.x.frees(1, 1), -2, "1");
    }

    private static void anotherShareToFree(Check check) {
        Desk d = Desk.at(check, LINE, 999999, 0);
        for (int s : new int[] {Integer.MIN_VALUE, -1, 1000000, Integer.MAX_VALUE}) {
            d.due("frees(0, " + s + ")", d.x.frees(0, s), -1, "");
        }
        d.due("frees(1, 0)", d.x.frees(1, 0), -1, "");
        d.due("frees(0, 999999)", d.x.frees(0, 999999), 0, "0");
    }

    private static void when(Check check) {
        Desk d = Desk.at(check, SLOW, 100, 0);
        d.starts("0-1-2-3", 0, 0, 30);
        d.starts("0-1", 0, 0, 20);
        d.due("when(0, 51): movement 1 ends", d.x.when(0, 51), 10);
        d.due("when(0, 70)", d.x.when(0, 70), 10);
        d.due("when(0, 71): movement 0, too", d.x.when(0, 71), 60);
        d.due("when(0, 100)", d.x.when(0, 100), 60);
        d.x.hours(94);
        d.stamps(0, 1);
        d.due("when(0, 80): just at its term", d.x.when(0, 80), 144);
        d.due("when(0, 81): movement 1 is sought", d.x.when(0, 81), -2);
        d.x.undo();
        d.x.hours(1);
        d.stamps(0, 1);
        d.due("late()", d.x.late(), 1);
        d.due("when(0, 51): it is late", d.x.when(0, 51), -2);
        d.due("count(8): when() tells of no row", d.x.count(8), 1);
    }

    private static void whenThatIsPast(Check check) {
        Desk d = Desk.at(check, SLOW, 100, 0);
        d.starts("0-1", 0, 0, 30);
        d.x.hours(9);
        d.due("when(0, 71) an hour ahead of its end", d.x.when(0, 71), 10);
        d.x.hours(1);
        d.due("when(0, 71) at its end", d.x.when(0, 71), 10);
        d.x.hours(1);
        d.due("when(0, 71) an hour behind it", d.x.when(0, 71), 11);
        d.x.hours(33);
        d.due("when(0, 71) at its term", d.x.when(0, 71), 44);
        d.x.hours(1);
        d.due("when(0, 71), it is sought", d.x.when(0, 71), -2);
    }

    private static void whenOneIsArrived(Check check) {
        Desk d = Desk.at(check, SLOW, 100, 0);
        d.starts("0-1", 0, 0, 30);
        d.starts("0-1", 0, 0, 20);
        d.x.hours(2);
        d.stamps(0, 1);
        d.due("when(0, 80): one is arrived", d.x.when(0, 80), 2);
        d.due("when(0, 81): the other one ends", d.x.when(0, 81), 10);
        d.x.controls(0, 29);
        d.due("when(0, 70): one is owed", d.x.when(0, 70), 10);
        d.due("when(0, 71): it stays owed", d.x.when(0, 71), -2);
        d.x.pays(0);
        d.due("when(0, 80): it is paid", d.x.when(0, 80), 2);
        d.x.hours(200);
        d.due("when(0, 81): both are lost", d.x.when(0, 81), -2);
    }

    private static void whenItFitsNow(Check check) {
        Desk d = Desk.at(check, SLOW, 100, 0, 0, 3);
        d.due("when(0, 100)", d.x.when(0, 100), 0);
        d.due("when(1, 0)", d.x.when(1, 0), 0);
        d.x.hours(7);
        d.starts("0-1", 0, 0, 30);
        d.due("when(0, 0)", d.x.when(0, 0), 7);
        d.due("when(0, 70): just what is free", d.x.when(0, 70), 7);
        d.due("when(0, 71)", d.x.when(0, 71), 17);
    }

    private static void never(Check check) {
        Desk d = Desk.at(check, SLOW, 100, 0, 0, 3);
        d.due("when(0, 101): above the sum", d.x.when(0, 101), -2);
        d.due("when(0, 999999)", d.x.when(0, 999999), -2);
        d.due("when(1, 1)", d.x.when(1, 1), -2);
        d.starts("0-1", 0, 0, 30);
        d.due("when(0, 100)", d.x.when(0, 100), 10);
        d.due("when(0, 101)", d.x.when(0, 101), -2);
    }

    private static void anotherShareToWaitFor(Check check) {
        Desk d = Desk.at(check, LINE, 999999, 0);
        for (int s : new int[] {Integer.MIN_VALUE, -1, 1000000, Integer.MAX_VALUE}) {
            d.due("when(0, " + s + ")", d.x.when(0, s), -1);
        }
        d.due("when(1, 0)", d.x.when(1, 0), -1);
        d.due("when(0, 999999)", d.x.when(0, 999999), 0);
    }

    // ---- fits

    private static void loads(Check check) {
        Desk d = Desk.at(check, "00|0-1:1|1,2,3,4,5,6", 99999, 0);
        d.dueFits("", 0, 0);
        check.due("its row", d.row(), "0 0");
        d.dueFits("0:1", 0, 1);
        d.dueFits("5:999", 0, 1);
        check.due("its row", d.row(), "999 5994");
        d.dueFits("0:0", 0, -23);
        d.dueFits("0:1000", 0, -26);
        d.dueFits("6:1", 0, -21);
        d.dueFits("0:1,0:1,0:1,0:1,0:1,0:1,0:1", 0, 127);
        d.dueFits("0:1,1:1,2:1,3:1,4:1,5:1,0:2,1:2", 0, 255);
        check.due("its row", d.row(), "10 27");
        d.dueFits("0:1,1:1,2:1,3:1,4:1,5:1,0:2,1:2,2:2", 0, -21 - 31);
        d.dueFits("0:1,1:1,2:1,3:1,4:1,5:1,0:2,1:2,", 0, -21 - 31);
        d.net("00|");
        d.x.trader(9, 0);
        d.dueFits("0:1", 0, -21);
        d.dueFits("", 0, 0);
        d.dueFits("", 1, -1);
    }

    private static void setsThatCouldStart(Check check) {
        Desk d = Desk.at(check, "00|0-1:1|1,2", 100, 0, 10, 2, 0, 3);
        d.dueFits("0:100", 0, 1);
        d.dueFits("0:101", 0, 0);
        check.due("row: none could start", d.row(), "0 0");
        d.dueFits("0:60,0:40", 0, 3);
        d.dueFits("0:60,0:41", 0, 1);
        d.dueFits("1:50", 0, 1);
        d.dueFits("0:91,0:1", 1, 1);
        d.dueFits("0:90,0:1", 1, 3);
        d.dueFits("0:999,1:999", 2, 3);
        for (int m = 0; m < 20; m++) {
            d.dueStarts("0-1", 0, 0, 1, m);
        }
        d.dueFits("0:80", 0, 1);
        d.dueFits("0:81", 0, 0);
        d.dueFits("0:40,0:40,0:1", 0, 3);
    }

    private static void theBestSet(Check check) {
        Desk d = Desk.at(check, "00|0-1:1|1,2,3", 12, 0, 0, 3);
        d.dueFits("2:3,1:4,0:5", 0, 4);
        d.dueFits("1:5,0:6", 0, 2);
        d.dueFits("2:4,1:4", 0, 2);
        d.dueFits("1:4,2:4", 0, 1);
        d.dueFits("0:6,0:6,0:6", 0, 3);
        d.dueFits("0:12,0:6,0:6", 0, 1);
        d.dueFits("0:6,0:12,0:6", 0, 2);
        d.dueFits("0:3,0:3,0:6,0:6", 0, 7);
        d.dueFits("0:1,0:1", 1, 3);
    }

    private static void unitsAndSharesTogether(Check check) {
        Desk d = Desk.at(check, "00|0-1:1|1,999", 0, 3, 999999, 0, 999999, 2);
        d.dueFits("1:999,1:999,1:999,1:999,1:999,1:999,1:999,1:999", 0, 255);
        check.due("row: the most units", d.row(), "7992 0");
        d.dueFits("1:999,0:999,0:999", 1, 7);
        check.due("row", d.row(), "2997 999999");
        d.dueFits("1:999,0:999,0:999,0:1", 1, 7);
        check.due("row", d.row(), "2997 999999");
        d.dueFits("0:1,0:1,0:11", 2, 7);
        check.due("row: each rounded up", d.row(), "13 4");
    }

    private static void wrongLoads(Check check) {
        Desk d = Desk.at(check, "00|0-1:1|1,2", 100, 0);
        String[] loads = {"x", ",", ":1", "0", "0-1", "0:", "0:,", "0:1,", "0:1,,", "0:1;0:1", "0:1,2:1", "0:1,0", "0:1,0:", "0:1,0:0", "0:1 "};
        int[] places = {0, 0, 0, 1, 1, 2, 2, 4, 4, 3, 4, 5, 6, 6, 3};
        for (int i = 0; i < loads.length; i++) {
            d.dueFits(loads[i], 0, -21 - places[i]);
            d.due("count(9)", d.x.count(9), 0);
        }
        d.due("count(8): no row", d.x.count(8), 0);
    }

    // ---- detour, risk, tightest

    private static void detour(Check check) {
        Desk d = Desk.at(check, "00000000|0-1:99,1-2:99,2-3:99,3-4:99,4-5:99,5-6:99,6-7:99,0-7:1");
        d.dueDetour("0-7", 0);
        d.dueDetour("0-1-2-3-4-5-6-7", 692);
        d.dueDetour("7-6-5-4-3-2-1-0", 692);
        d.dueDetour("0-7-6", 0);
        d.net("000|0-2:99,0-1:49,1-2:49");
        d.dueDetour("0-2", 1);
        d.dueDetour("0-1-2", 0);
        // The shortest way has 10 offices, which no route has.
        d.net("00000000000|0-10:99,0-1:1,1-2:1,2-3:1,3-4:1,4-5:1,5-6:1,6-7:1,7-8:1,8-9:1,9-10:1");
        d.dueDetour("0-10", 89);
    }

    private static void spanAndTerm(Check check) {
        Desk d = Desk.at(check, "00000000|0-1:99,1-2:99,2-3:99,3-4:99,4-5:99,5-6:99,6-7:99,0-7:1");
        d.dueDetour("0-7", 0);
        check.due("its row", d.row(), "1 26");
        for (int i = 0; i < 100; i++) {
            d.x.hours(999);
        }
        d.x.hours(99);
        d.dueDetour("0-1-2-3-4-5-6-7", 692);
        check.due("its row in the last hour", d.row(), "693 101409");
        d.due("count(5): nothing started", d.x.count(5), 0);
    }

    private static void wrongRoutes(Check check) {
        Desk d = Desk.at(check, LINE, 9, 0);
        String[] routes = {"", "0", "0-", "0-0", "0-2", "12-11", "11-12", "0-1-0", "0-1-2-3-4-5-6-7-8", "0-1-2-3-4-5-6-7,", "0:1"};
        int[] places = {0, 1, 2, 2, 2, 1, 4, 4, 15, 15, 1};
        for (int i = 0; i < routes.length; i++) {
            d.dueDetour(routes[i], -21 - places[i]);
            d.dueStarts(routes[i], 0, 0, 1, -21 - places[i]);
            d.due("count(9)", d.x.count(9), 0);
        }
        d.due("count(8): no row", d.x.count(8), 0);
        d.dueDetour("0-1-2-3-4-5-6-7", 0);
    }

    private static void risk(Check check) {
        Desk d = Twins.busy(check);
        d.due("risk(6), rolling", d.x.risk(Twins.ROLLING), 150);
        d.due("risk(4), arrived", d.x.risk(Twins.ARRIVED), 75);
        d.due("risk(5), sought", d.x.risk(Twins.SOUGHT), 50);
        d.due("risk(3), sought and broken", d.x.risk(Twins.SOUGHT_BROKEN), 200);
        d.net("00|0-1:1|1,999");
        d.x.trader(999999, 0);
        d.starts("0-1", 0, 0, 1);
        d.starts("0-1", 0, 1, 999);
        d.due("risk(0): the least", d.x.risk(0), 1);
        d.due("risk(1): the most", d.x.risk(1), 998001);
    }

    private static void notInItsShare(Check check) {
        Desk d = Desk.at(check, "05|0-1:1|9", 99, 0, 99, 1, 99, 2, 99, 3);
        String[] rows = {"0 0", "4 0", "8 0", "9 0"};
        for (int t = 0; t < 4; t++) {
            d.starts("0-1", t, 0, 1);
            d.due("risk(" + t + ")", d.x.risk(t), 9, rows[t]);
        }
        d.stamps(3, 1);
        d.due("risk(3), seen in country 5", d.x.risk(3), 9, "9 5");
    }

    private static void riskOfOthers(Check check) {
        Desk d = Twins.busy(check);
        for (int m : new int[] {Twins.CLOSED, Twins.OWED, Twins.PAID}) {
            d.due("risk(" + m + ")", d.x.risk(m), -2, Twins.ROW);
        }
        d.due("risk(7)", d.x.risk(Twins.MOVEMENTS), -1, Twins.ROW);
    }

    private static void tightest(Check check) {
        Desk d = Desk.at(check, "00|0-1:1|1", 0, 3, 1000, 0, 500, 0, 999999, 0);
        d.due("tightest(): none in use, the first", d.x.tightest(), 0);
        d.starts("0-1", 0, 0, 999);
        d.due("tightest(): a sum of 0 is nothing", d.x.tightest(), 0, "0");
        d.starts("0-1", 3, 0, 999);
        d.due("tightest(): 999 of 999999 is nothing, cut", d.x.tightest(), 0, "0");
        d.starts("0-1", 2, 0, 1);
        d.due("tightest(): 1 of 500", d.x.tightest(), 2, "2");
        d.starts("0-1", 1, 0, 2);
        d.due("tightest(): 2 of 1000 is as much, and ahead", d.x.tightest(), 1, "2");
        d.x.sums(2, 334, 0);
        d.due("tightest(): 1 of 334 is cut to 2", d.x.tightest(), 1, "2");
        d.x.sums(2, 333, 0);
        d.due("tightest(): 1 of 333 is 3", d.x.tightest(), 2, "3");
    }

    private static void thousandths(Check check) {
        Desk d = Desk.at(check, "00|0-1:1|1,999", 5, 0, 998001, 0);
        d.due("tightest()", d.x.tightest(), 0, "0");
        d.starts("0-1", 0, 0, 4);
        d.due("tightest()", d.x.tightest(), 0, "800");
        d.starts("0-1", 1, 1, 999);
        d.due("tightest(): all of a great sum", d.x.tightest(), 1, "1000");
        d.x.sums(1, 998002, 0);
        d.due("tightest(): all but one", d.x.tightest(), 1, "999");
        d.starts("0-1", 0, 0, 1);
        d.due("tightest()", d.x.tightest(), 0, "1000");
    }

    private static void noTrader(Check check) {
        Desk d = Desk.at(check, LINE);
        d.due("tightest() of none", d.x.tightest(), -2, "");
        d.x.trader(0, 0);
        d.due("tightest()", d.x.tightest(), 0, "0");
        d.x.undo();
        d.due("tightest() of one undone", d.x.tightest(), -2, "0");
    }
}
