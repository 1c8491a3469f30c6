/** Promises 14 to 20: movements from their start to their end, and hours. */
final class MovementsTest {
    private MovementsTest() {
    }

    public static void main(String[] args) {
        Check check = new Check("MovementsTest");
        starts(check);
        startsRefused(check);
        wrongRoutes(check);
        routesByDigits(check);
        twentyMovements(check);
        stamps(check);
        breaks(check);
        controls(check);
        proves(check);
        pays(check);
        hours(check);
        hoursAtOnce(check);
        twentyAtOnce(check);
        theLastHour(check);
        check.close();
    }

    private static void starts(Check check) {
        Desk d = Desk.at(check, Desk.NET, 1000, 0, 1000, 2);
        d.x.hours(9);
        d.due("starts()", d.starts("3-2-1-0", 0, 1, 40), 0);
        d.due("term", d.x.movement(0, 6), 9 + 2 * 16 + 24);
        d.due("duty", d.x.movement(0, 4), 1000);
        d.due("share", d.x.movement(0, 5), 1000);
        d.due("state", d.x.movement(0, 3), 0);
        d.due("stamps", d.x.movement(0, 7), 1);
        d.due("stop(0, 0)", d.x.stop(0, 0), 3, "9");
        d.due("starts()", d.starts("4-3", 1, 0, 999), 1);
        d.due("share, a tenth", d.x.movement(1, 5), 999);
        d.due("count(5)", d.x.count(5), 2);
        d.net("012345012345|10-11:9,11-0:8,0-3:7|999");
        d.x.trader(999999, 2);
        d.due("offices of two digits", d.starts("10-11-0-3", 0, 0, 999), 0);
        d.due("duty", d.x.movement(0, 4), 998001);
        d.due("share", d.x.movement(0, 5), 99801);
        d.due("stop(0, 1)", d.x.stop(0, 1), 11, "-1");
    }

    private static void startsRefused(Check check) {
        Desk d = Desk.at(check, Desk.NET, 1000, 0, 0, 3);
        d.due("no trader", d.starts("0-1", 2, 0, 1), -1);
        d.due("trader -1", d.starts("0-1", -1, 0, 1), -1);
        d.due("no goods", d.starts("0-1", 0, 2, 1), -1);
        d.due("goods -1", d.starts("0-1", 0, -1, 1), -1);
        d.due("units 0", d.starts("0-1", 0, 0, 0), -1);
        d.due("units 1000", d.starts("0-1", 1, 0, 1000), -1);
        d.due("more than the sum", d.starts("0-1", 0, 0, 101), -3);
        d.due("a wrong text and no trader", d.starts("0-1-", 7, 0, 1), -25);
        d.due("no trader and more than the sum", d.starts("0-1", 7, 0, 101), -1);
        d.due("count(5)", d.x.count(5), 0);
        d.due("count(6)", d.x.count(6), 2);
        d.due("just the sum", d.starts("0-1", 0, 0, 100), 0);
        d.due("one more", d.starts("0-1", 0, 0, 1), -3);
        d.due("free of a share", d.starts("0-1", 1, 1, 999), 1);
    }

    private static void routeRefused(Desk d, String route, int place) {
        d.due("starts() of " + route, d.starts(route, 0, 0, 1), -21 - place);
        d.due("detour() of " + route, d.detour(route), -21 - place);
    }

    /** The digits of an office are those of the greatest that there is. */
    private static void routesByDigits(Check check) {
        Desk d = new Desk(check);
        routeRefused(d, "60", 0);
        routeRefused(d, "10", 1);
        d.net("00000|0-1:1|1");
        routeRefused(d, "0-51", 2);
        routeRefused(d, "0-21", 2);
        routeRefused(d, "0-11", 3);
        routeRefused(d, "51", 0);
        d.net("0000000000|0-1:1,1-9:1|1");
        routeRefused(d, "1-11", 2);
        routeRefused(d, "0-21", 2);
        routeRefused(d, "1-99", 3);
        d.net("00000000000|0-1:1,1-10:1|1");
        routeRefused(d, "1-11", 3);
        routeRefused(d, "0-21", 3);
        routeRefused(d, "51", 1);
        d.due("detour() of 0-1-10", d.detour("0-1-10"), 0, "2 28");
    }

    private static void wrongRoutes(Check check) {
        Desk d = Desk.at(check, Desk.NET, 1000, 0);
        String[] routes = {"", "x", "5", "0", "0x", "0,1", "0-", "0-x", "0-0", "0-3", "0-1-0", "0-1x", "0-1-", "0-1-2-",
            "0-1-2 ", "00-1", "0-1-02", "0-15", "1-01", "-0"};
        int[] places = {0, 0, 0, 1, 1, 1, 2, 2, 2, 2, 4, 3, 4, 6, 5, 1, 4, 3, 3, 0};
        for (int i = 0; i < routes.length; i++) {
            d.due("starts() of " + routes[i], d.starts(routes[i], 0, 0, 1), -21 - places[i]);
            d.due("detour() of " + routes[i], d.detour(routes[i]), -21 - places[i]);
        }
        d.net("000000000000|0-1:1,1-2:1,2-3:1,3-4:1,4-5:1,5-6:1,6-7:1,7-8:1,9-10:2,10-11:2|1");
        d.x.trader(9, 0);
        d.due("a 9th office", d.starts("0-1-2-3-4-5-6-7-8", 0, 0, 1), -21 - 15);
        d.due("a sign behind 8 offices", d.starts("0-1-2-3-4-5-6-7x", 0, 0, 1), -21 - 15);
        d.due("no such office", d.starts("10-12", 0, 0, 1), -21 - 4);
        d.due("told already", d.starts("10-11-10", 0, 0, 1), -21 - 7);
        d.due("no road", d.starts("8-11", 0, 0, 1), -21 - 3);
        d.due("8 offices", d.starts("0-1-2-3-4-5-6-7", 0, 0, 1), 0);
        d.due("movement(0, 12)", d.x.movement(0, 12), 8);
    }

    private static void twentyMovements(Check check) {
        Desk d = Desk.at(check, Desk.NET, 200, 0);
        for (int m = 0; m < 20; m++) {
            d.due("starts " + m, d.starts("0-1", 0, 0, 1), m);
        }
        d.due("a 21st", d.starts("0-1", 0, 0, 1), -2);
        d.due("a 21st of no goods", d.starts("0-1", 0, 5, 1), -1);
        d.due("a 21st with a wrong text", d.starts("0-1.", 0, 0, 1), -24);
        d.due("count(5)", d.x.count(5), 20);
        d.due("inUse(0)", d.x.inUse(0), 200, "200 0 0 1048575");
        d.due("undo()", d.x.undo(), 7);
        d.due("count(5)", d.x.count(5), 19);
        d.due("a 20th above the sum", d.starts("0-1", 0, 0, 2), -3);
        d.due("a 20th", d.starts("2-1", 0, 0, 1), 19);
        d.due("movement(19, 8)", d.x.movement(19, 8), 2);
    }

    private static void stamps(Check check) {
        Desk d = Desk.at(check, Desk.NET, 1000, 0);
        d.starts("0-1-2-3", 0, 0, 5);
        d.due("stamps(0, 5)", d.x.stamps(0, 5), -1);
        d.due("stamps(0, -1)", d.x.stamps(0, -1), -1);
        d.due("stamps(1, 1)", d.x.stamps(1, 1), -1);
        d.due("stamps(-1, 1)", d.x.stamps(-1, 1), -1);
        d.due("stamps(0, 0)", d.x.stamps(0, 0), -3);
        d.due("stamps(0, 2)", d.x.stamps(0, 2), -3);
        d.x.hours(5);
        d.due("stamps(0, 1)", d.x.stamps(0, 1), 2);
        d.due("stop(0, 1)", d.x.stop(0, 1), 1, "5");
        d.due("seen", d.x.movement(0, 8), 1);
        d.due("state", d.x.movement(0, 3), 0);
        d.due("stamps(0, 1) again", d.x.stamps(0, 1), -3);
        d.x.hours(52);
        d.due("state", d.x.movement(0, 3), 3);
        d.due("stamps(0, 2) of one sought", d.x.stamps(0, 2), 1);
        d.due("it stays sought", d.x.movement(0, 3), 3);
        d.due("stamps(0, 3)", d.x.stamps(0, 3), 0);
        d.due("it is arrived", d.x.movement(0, 3), 1);
        d.due("stamps", d.x.movement(0, 7), 4);
        d.due("stamps(0, 3) again", d.x.stamps(0, 3), -2);
        d.due("stamps(0, 9) of one arrived", d.x.stamps(0, 9), -1);
        d.x.controls(0, 5);
        d.due("stamps(0, 3) of one closed", d.x.stamps(0, 3), -2);
        d.due("book(0)", d.x.book(0, 0), 3);
        check.due("book(1)", d.book(1), "1 0 57");
    }

    private static void breaks(Check check) {
        Desk d = Desk.at(check, Desk.NET, 1000, 0);
        for (int m = 0; m < 3; m++) {
            d.starts("0-1-2", 0, 0, 5);
        }
        d.due("breaks(3)", d.x.breaks(3), -1);
        d.due("breaks(-1)", d.x.breaks(-1), -1);
        d.due("breaks(1)", d.x.breaks(1), 1);
        d.due("movement(1, 9)", d.x.movement(1, 9), 1);
        d.due("movement(0, 9)", d.x.movement(0, 9), 0);
        d.due("breaks(1) again", d.x.breaks(1), -3);
        d.due("breaks(0)", d.x.breaks(0), 2);
        d.due("count(10)", d.x.count(10), 2);
        d.stamps(1, 1, 2);
        d.due("breaks(1) of one arrived and broken", d.x.breaks(1), -2);
        d.x.controls(1, 5);
        d.due("count(10): those closed, too", d.x.count(10), 2);
        d.x.hours(49);
        d.due("movement(2, 3)", d.x.movement(2, 3), 3);
        d.due("breaks(2) of one sought", d.x.breaks(2), 3);
        d.due("breaks(1) of one closed", d.x.breaks(1), -2);
        check.due("book(0)", d.book(0), "2 2 49");
    }

    private static void controls(Check check) {
        Desk d = Desk.at(check, Desk.NET, 9999, 0);
        for (int m = 0; m < 4; m++) {
            d.starts("0-1", 0, 1, 8);
        }
        d.x.breaks(2);
        d.x.breaks(3);
        d.due("controls(0, 8) of one rolling", d.x.controls(0, 8), -2);
        d.due("controls(0, 9) of one rolling", d.x.controls(0, 9), -1);
        for (int m = 0; m < 4; m++) {
            d.stamps(m, 1);
        }
        d.due("controls(4, 0)", d.x.controls(4, 0), -1);
        d.due("controls(-1, 0)", d.x.controls(-1, 0), -1);
        d.due("controls(0, 9)", d.x.controls(0, 9), -1);
        d.due("controls(0, -1)", d.x.controls(0, -1), -1);
        d.due("controls(0, 8)", d.x.controls(0, 8), 0);
        d.due("state", d.x.movement(0, 3), 2);
        d.due("debt", d.x.movement(0, 10), 0);
        check.due("book(0)", d.book(0), "3 0 0");
        d.due("controls(1, 5)", d.x.controls(1, 5), 75);
        d.due("state", d.x.movement(1, 3), 4);
        d.due("debt", d.x.movement(1, 10), 75);
        d.due("duty stays", d.x.movement(1, 4), 200);
        check.due("book(0)", d.book(0), "5 1 0");
        d.due("controls(2, 0), broken", d.x.controls(2, 0), 400);
        d.due("controls(3, 8), broken", d.x.controls(3, 8), 0);
        d.due("state", d.x.movement(3, 3), 2);
        d.due("controls(1, 5) again", d.x.controls(1, 5), -2);
        d.due("controls(0, 8) again", d.x.controls(0, 8), -2);
        d.due("states(4)", d.x.states(4), 6, "2 400");
    }

    private static void proves(Check check) {
        Desk d = Desk.at(check, Desk.NET, 9999, 0);
        for (int m = 0; m < 4; m++) {
            d.starts("0-1", 0, 1, 8);
        }
        d.x.breaks(3);
        d.due("proves(4)", d.x.proves(4), -1);
        d.due("proves(-1)", d.x.proves(-1), -1);
        d.due("proves(0) of one rolling", d.x.proves(0), -2);
        d.due("proves(3) of one rolling and broken", d.x.proves(3), -2);
        d.x.hours(35);
        d.due("proves(3) of one broken", d.x.proves(3), -3);
        d.due("proves(0) at once", d.x.proves(0), 0);
        d.due("state", d.x.movement(0, 3), 2);
        d.due("step", d.x.movement(0, 11), 0);
        d.due("proves(0) again", d.x.proves(0), -2);
        check.due("book(0)", d.book(0), "3 0 35");
        d.x.hours(23);
        d.due("proves(1) a day later", d.x.proves(1), 1);
        d.x.hours(47);
        d.due("proves(2) in the last hour", d.x.proves(2), 2);
        d.due("hours(1)", d.x.hours(1), 1);
        d.due("movement(3, 3)", d.x.movement(3, 3), 4);
        d.due("movement(2, 3)", d.x.movement(2, 3), 2);
    }

    private static void pays(Check check) {
        Desk d = Desk.at(check, Desk.NET, 9999, 0);
        d.starts("0-1", 0, 1, 8);
        d.due("pays(0) of one rolling", d.x.pays(0), -2);
        d.due("pays(1)", d.x.pays(1), -1);
        d.due("pays(-1)", d.x.pays(-1), -1);
        d.stamps(0, 1);
        d.due("pays(0) of one arrived", d.x.pays(0), -2);
        d.x.controls(0, 7);
        d.x.hours(3);
        d.due("pays(0)", d.x.pays(0), 25);
        d.due("state", d.x.movement(0, 3), 5);
        d.due("debt", d.x.movement(0, 10), 25);
        d.due("pays(0) again", d.x.pays(0), -2);
        check.due("book(0)", d.book(0), "6 0 3");
    }

    private static void hours(Check check) {
        Desk d = Desk.at(check, Desk.NET, 9999, 1);
        d.starts("0-1-2", 0, 0, 5);
        d.due("hours(0)", d.x.hours(0), -1);
        d.due("hours(-1)", d.x.hours(-1), -1);
        d.due("hours(1000)", d.x.hours(1000), -1);
        d.due("hours(greatest)", d.x.hours(Integer.MAX_VALUE), -1);
        d.due("count(0)", d.x.count(0), 0);
        d.due("hours(48)", d.x.hours(48), 0);
        d.due("state at its term", d.x.movement(0, 3), 0);
        d.due("hours(1)", d.x.hours(1), 1);
        d.due("state", d.x.movement(0, 3), 3);
        d.due("step", d.x.movement(0, 11), 0);
        check.due("book(0)", d.book(0), "4 0 49");
        d.due("hours(22)", d.x.hours(22), 0);
        d.due("step, 23 hours", d.x.movement(0, 11), 0);
        d.due("hours(1)", d.x.hours(1), 0);
        d.due("step, 24 hours", d.x.movement(0, 11), 1);
        d.due("hours(24)", d.x.hours(24), 0);
        d.due("step, 48 hours", d.x.movement(0, 11), 2);
        d.due("hours(23)", d.x.hours(23), 0);
        d.due("state, 71 hours", d.x.movement(0, 3), 3);
        d.due("hours(1)", d.x.hours(1), 1);
        d.due("state, 72 hours", d.x.movement(0, 3), 4);
        d.due("step of one owed", d.x.movement(0, 11), 0);
        d.due("debt is the duty, not the share", d.x.movement(0, 10), 50);
        check.due("book(0)", d.book(0), "5 0 120");
        d.due("hours(999)", d.x.hours(999), 0);
    }

    private static void hoursAtOnce(Check check) {
        Desk d = Desk.at(check, Desk.NET, 9999, 0);
        d.starts("0-1-2", 0, 0, 5);
        d.starts("0-1", 0, 0, 5);
        d.starts("3-2-1", 0, 0, 5);
        d.starts("1-0", 0, 0, 5);
        d.starts("0-1", 0, 0, 5);
        d.stamps(4, 1);
        // Terms 48, 34, 46, 34: all are sought, those of 34 and 46 are owed, too.
        d.due("hours(118)", d.x.hours(118), 4);
        String[] entries = {"5 2 118", "5 3 106", "5 1 106", "4 0 49", "4 2 47", "4 3 35", "4 1 35", "1 4 0"};
        for (int i = 0; i < entries.length; i++) {
            check.due("book(" + i + ")", d.book(i), entries[i]);
        }
        d.due("states(3)", d.x.states(3), 1, "1 50");
        d.due("states(4)", d.x.states(4), 14, "3 150");
        d.due("states(1)", d.x.states(1), 16, "1 50");
        d.due("undo()", d.x.undo(), 7);
        d.due("count(0)", d.x.count(0), 0);
        d.due("states(0)", d.x.states(0), 15, "4 200");
        check.due("book(0) after undo()", d.book(0), "1 4 0");
    }

    private static void twentyAtOnce(Check check) {
        Desk d = Desk.at(check, Desk.NET, 9999, 0);
        for (int m = 0; m < 20; m++) {
            d.starts("0-1", 0, 0, 1);
        }
        d.due("hours(106): each is sought, then owed", d.x.hours(106), 20);
        d.due("states(4)", d.x.states(4), 1048575, "20 200");
    }

    private static void theLastHour(Check check) {
        Desk d = Desk.at(check, Desk.NET);
        for (int i = 0; i < 100; i++) {
            d.x.hours(999);
        }
        d.due("count(0)", d.x.count(0), 99900);
        d.due("hours(100)", d.x.hours(100), -1);
        d.due("count(0)", d.x.count(0), 99900);
        d.due("hours(99)", d.x.hours(99), 0);
        d.due("count(0)", d.x.count(0), 99999);
        d.due("hours(1)", d.x.hours(1), -1);
        d.x.trader(500, 0);
        d.due("starts() in the last hour", d.starts("0-1", 0, 0, 5), 0);
        d.due("term", d.x.movement(0, 6), 99999 + 34);
    }
}
